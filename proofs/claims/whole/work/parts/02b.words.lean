/-! 20.words: by wip/whole/gen_link.py. gw: the words of the tables that last -/
def gw : List Cond := lw_tbl.filter goodWord
theorem gw_in {w : Cond} (i : Nat) (h : lw_tbl[i]? = some w) (g : goodWord w = true) : w ∈ gw := List.mem_filter.mpr ⟨List.mem_of_getElem? h, g⟩
theorem gw_good : ∀ w ∈ gw, goodWord w = true := fun w h => (List.mem_filter.mp h).2
theorem gw_tbl : ∀ w ∈ gw, w ∈ lw_tbl := fun w h => (List.mem_filter.mp h).1
/-- the class that a method stands in, by number -/
def cxN (m : Nat) : Nat := if m < 900 then m / 100 else if m < 1000 then m else 10
def csN : Nat → String := fun k => match k with
  | 0 => RX0
  | 1 => RX1
  | 2 => RX2
  | 3 => RX3
  | 4 => RX4
  | 5 => RX5
  | 6 => RX6
  | 7 => RX7
  | 8 => RJ0
  | 10 => RL
  | 900 => RJ6
  | 901 => RJ6
  | 910 => RJ9
  | 911 => RJ9
  | 920 => RJ1
  | 930 => RJ7
  | 940 => RJ3
  | _ => ""
def yNm : Nat → String × String := fun k => match k with
  | 0 => ("tellInto", "(LFortyReports$School;)I")
  | 1 => ("takeItem", "(LFortyReports$School;)Z")
  | 2 => ("takeLine", "(LFortyReports$School;)Z")
  | 3 => ("takeChild", "(LFortyReports$School;)Z")
  | 4 => ("takeNumber", "(II)I")
  | 5 => ("isName", "(Ljava/lang/String;)Z")
  | 6 => ("nameAmong", "(Ljava/lang/String;)I")
  | 7 => ("isNameWithin", "(Ljava/lang/String;II)Z")
  | 8 => ("advance", "()V")
  | 9 => ("isLetter", "(B)Z")
  | 10 => ("isDigit", "(B)Z")
  | 100 => ("choose", "(LFortyReports$School;I)V")
  | 101 => ("writeDown", "(LFortyReports$School;I)V")
  | 102 => ("weighUsable", "(LFortyReports$School;I)I")
  | 103 => ("worthiest", "(I)I")
  | 200 => ("plansOf", "(I)I")
  | 201 => ("takeDigits", "(III)Z")
  | 202 => ("follow", "(LFortyReports$School;I)I")
  | 203 => ("begin", "(LFortyReports$School;)V")
  | 204 => ("seek", "(LFortyReports$Planner;III)V")
  | 300 => ("become", "(LFortyReports$School;)V")
  | 301 => ("addChild", "()I")
  | 302 => ("addLine", "(IIIII)I")
  | 303 => ("suits", "(II)Z")
  | 304 => ("suitable", "(I)I")
  | 305 => ("says", "(I)I")
  | 306 => ("worth", "(II)I")
  | 307 => ("wordsOf", "(I)I")
  | 308 => ("wordsOfAll", "()I")
  | 309 => ("writtenReports", "()I")
  | 310 => ("passYear", "()V")
  | 311 => ("candidates", "(I)I")
  | 312 => ("bitsOfReport", "(I)I")
  | 313 => ("alikeWith", "(I)I")
  | 314 => ("gainByLooking", "(II)I")
  | 400 => ("isMissing", "()Z")
  | 401 => ("renew", "(II)V")
  | 402 => ("lowestBits", "(J)J")
  | 403 => ("hasSpan", "(II)Z")
  | 500 => ("gather", "(LFortyReports$School;I)V")
  | 501 => ("parts", "(I)Z")
  | 502 => ("fewest", "(I)I")
  | 600 => ("child", "(IIII)I")
  | 601 => ("of", "(II)I")
  | 602 => ("set", "(III)I")
  | 603 => ("line", "(IIIII)I")
  | 604 => ("lineOf", "(II)I")
  | 605 => ("as", "(II)I")
  | 606 => ("turn", "(II)I")
  | 607 => ("fits", "(II)I")
  | 608 => ("all", "(I)I")
  | 609 => ("writer", "(II)I")
  | 610 => ("report", "(I)I")
  | 611 => ("rest", "(I)I")
  | 612 => ("tear", "(I)I")
  | 613 => ("put", "(IIZ)I")
  | 614 => ("years", "(I)I")
  | 615 => ("now", "(I)I")
  | 616 => ("whose", "(I)I")
  | 617 => ("bits", "(I)I")
  | 618 => ("alike", "(I)I")
  | 619 => ("swaps", "()I")
  | 620 => ("plainest", "()I")
  | 621 => ("wrong", "(I)I")
  | 622 => ("plan", "(II)I")
  | 623 => ("order", "(II)I")
  | 624 => ("heap", "(I)I")
  | 625 => ("look", "(II)I")
  | 626 => ("whom", "(I)I")
  | 627 => ("lean", "(I)I")
  | 628 => ("feed", "(II)I")
  | 629 => ("wipe", "()I")
  | 630 => ("text", "()I")
  | 631 => ("sheet", "(III)I")
  | 632 => ("write", "(IIJ)J")
  | 633 => ("copy", "(IIIII)I")
  | 634 => ("lays", "(I)I")
  | 635 => ("read", "(II)I")
  | 636 => ("image", "()I")
  | 637 => ("undo", "()I")
  | 638 => ("burn", "()I")
  | 639 => ("count", "(I)I")
  | 640 => ("status", "(I)I")
  | 641 => ("tell", "(I)I")
  | 642 => ("isChild", "(I)Z")
  | 643 => ("isLine", "(I)Z")
  | 644 => ("isSetOfChildren", "(I)Z")
  | 645 => ("maySet", "(III)Z")
  | 646 => ("isKind", "(I)Z")
  | 647 => ("isSheet", "(I)Z")
  | 648 => ("isTraitValue", "(I)Z")
  | 649 => ("isWithin", "(III)Z")
  | 650 => ("has", "(II)Z")
  | 651 => ("isUnder", "(II)Z")
  | 652 => ("exchange", "([III)I")
  | 700 => ("finds", "(I)I")
  | 701 => ("in", "(III)Z")
  | 702 => ("within", "(III)I")
  | 703 => ("copyAll", "([I[I)V")
  | 704 => ("isChild", "(I)Z")
  | 705 => ("isLine", "(I)Z")
  | 706 => ("isSet", "(JI)Z")
  | 707 => ("get", "(II)I")
  | 708 => ("store", "(III)V")
  | 709 => ("lineAt", "(II)I")
  | 710 => ("becomes", "(II)I")
  | 711 => ("bitsOf", "(I)I")
  | 712 => ("comes", "(IIII)V")
  | 713 => ("isTrait", "(I)Z")
  | 714 => ("child", "(IIII)I")
  | 715 => ("wordsOf", "(I)I")
  | 716 => ("of", "(II)I")
  | 717 => ("set", "(III)I")
  | 718 => ("adds", "(IIIII)V")
  | 719 => ("line", "(IIIII)I")
  | 720 => ("isHeaped", "(I)Z")
  | 721 => ("doesFit", "(II)Z")
  | 722 => ("saysOf", "(I)I")
  | 723 => ("worthOf", "(I)I")
  | 724 => ("lineOf", "(II)I")
  | 725 => ("isUnder", "(II)Z")
  | 726 => ("as", "(II)I")
  | 727 => ("turn", "(II)I")
  | 728 => ("fits", "(II)I")
  | 729 => ("fitting", "(I)I")
  | 730 => ("all", "(I)I")
  | 731 => ("writer", "(II)I")
  | 732 => ("mostWorth", "(I)I")
  | 733 => ("writes", "(I)V")
  | 734 => ("report", "(I)I")
  | 735 => ("rest", "(I)I")
  | 736 => ("tear", "(I)I")
  | 737 => ("put", "(IIZ)I")
  | 738 => ("year", "()V")
  | 739 => ("years", "(I)I")
  | 740 => ("now", "(I)I")
  | 741 => ("canBe", "(II)Z")
  | 742 => ("whoseIs", "(I)I")
  | 743 => ("whose", "(I)I")
  | 744 => ("bitsAbout", "(I)I")
  | 745 => ("bits", "(I)I")
  | 746 => ("alikeWith", "(I)I")
  | 747 => ("alike", "(I)I")
  | 748 => ("swaps", "()I")
  | 749 => ("plainest", "()I")
  | 750 => ("wrong", "(I)I")
  | 751 => ("planned", "(I)I")
  | 752 => ("plan", "(II)I")
  | 753 => ("order", "(II)I")
  | 754 => ("isOrder", "(III)Z")
  | 755 => ("heap", "(I)I")
  | 756 => ("allDiffer", "(II)Z")
  | 757 => ("lookedAt", "(II)I")
  | 758 => ("look", "(II)I")
  | 759 => ("whom", "(I)I")
  | 760 => ("writtenNow", "(I)I")
  | 761 => ("lean", "(I)I")
  | 762 => ("feed", "(II)I")
  | 763 => ("wipe", "()I")
  | 764 => ("isAt", "(III)Z")
  | 765 => ("nameHere", "()I")
  | 766 => ("next", "()V")
  | 767 => ("isName", "(I)Z")
  | 768 => ("takesName", "(II)I")
  | 769 => ("takesNumber", "(II)I")
  | 770 => ("perhaps", "(IIII)I")
  | 771 => ("lineItem", "()V")
  | 772 => ("childItem", "()V")
  | 773 => ("item", "()V")
  | 774 => ("text", "()I")
  | 775 => ("isSheet", "(I)Z")
  | 776 => ("sheet", "(III)I")
  | 777 => ("write", "(IIJ)J")
  | 778 => ("has", "(III)Z")
  | 779 => ("copy", "(IIIII)I")
  | 780 => ("lays", "(I)I")
  | 781 => ("read", "(II)I")
  | 782 => ("image", "()I")
  | 783 => ("undo", "()I")
  | 784 => ("burn", "()I")
  | 785 => ("reportMany", "()I")
  | 786 => ("wordsAll", "()I")
  | 787 => ("count", "(I)I")
  | 788 => ("status", "(I)I")
  | 800 => ("length", "()I")
  | 801 => ("charAt", "(I)C")
  | 802 => ("coder", "()B")
  | 803 => ("isLatin1", "()Z")
  | 804 => ("checkIndex", "(II)V")
  | 900 => ("numberOfTrailingZeros", "(I)I")
  | 901 => ("bitCount", "(I)I")
  | 910 => ("max", "(II)I")
  | 911 => ("min", "(II)I")
  | 920 => ("charAt", "([BI)C")
  | 930 => ("fill", "([JJ)V")
  | 940 => ("checkIndex", "(IILjava/util/function/BiFunction;)I")
  | 1000 => ("law", "([I)Z")
  | _ => ("", "")
def yN (m : Nat) : MethodName := ⟨csN (cxN m), (yNm m).1, (yNm m).2⟩
def byt : Nat → ByteArray := fun k => match k with
  | 0 => cX0_tellInto
  | 1 => cX0_takeItem
  | 2 => cX0_takeLine
  | 3 => cX0_takeChild
  | 4 => cX0_takeNumber
  | 5 => cX0_isName
  | 6 => cX0_nameAmong
  | 7 => cX0_isNameWithin
  | 8 => cX0_advance
  | 9 => cX0_isLetter
  | 10 => cX0_isDigit
  | 100 => cX1_choose
  | 101 => cX1_writeDown
  | 102 => cX1_weighUsable
  | 103 => cX1_worthiest
  | 200 => cX2_plansOf
  | 201 => cX2_takeDigits
  | 202 => cX2_follow
  | 203 => cX2_begin
  | 204 => cX2_seek
  | 300 => cX3_become
  | 301 => cX3_addChild
  | 302 => cX3_addLine
  | 303 => cX3_suits
  | 304 => cX3_suitable
  | 305 => cX3_says
  | 306 => cX3_worth
  | 307 => cX3_wordsOf
  | 308 => cX3_wordsOfAll
  | 309 => cX3_writtenReports
  | 310 => cX3_passYear
  | 311 => cX3_candidates
  | 312 => cX3_bitsOfReport
  | 313 => cX3_alikeWith
  | 314 => cX3_gainByLooking
  | 400 => cX4_isMissing
  | 401 => cX4_renew
  | 402 => cX4_lowestBits
  | 403 => cX4_hasSpan
  | 500 => cX5_gather
  | 501 => cX5_parts
  | 502 => cX5_fewest
  | 600 => cX6_child
  | 601 => cX6_of
  | 602 => cX6_set
  | 603 => cX6_line
  | 604 => cX6_lineOf
  | 605 => cX6_as
  | 606 => cX6_turn
  | 607 => cX6_fits
  | 608 => cX6_all
  | 609 => cX6_writer
  | 610 => cX6_report
  | 611 => cX6_rest
  | 612 => cX6_tear
  | 613 => cX6_put
  | 614 => cX6_years
  | 615 => cX6_now
  | 616 => cX6_whose
  | 617 => cX6_bits
  | 618 => cX6_alike
  | 619 => cX6_swaps
  | 620 => cX6_plainest
  | 621 => cX6_wrong
  | 622 => cX6_plan
  | 623 => cX6_order
  | 624 => cX6_heap
  | 625 => cX6_look
  | 626 => cX6_whom
  | 627 => cX6_lean
  | 628 => cX6_feed
  | 629 => cX6_wipe
  | 630 => cX6_text
  | 631 => cX6_sheet
  | 632 => cX6_write
  | 633 => cX6_copy
  | 634 => cX6_lays
  | 635 => cX6_read
  | 636 => cX6_image
  | 637 => cX6_undo
  | 638 => cX6_burn
  | 639 => cX6_count
  | 640 => cX6_status
  | 641 => cX6_tell
  | 642 => cX6_isChild
  | 643 => cX6_isLine
  | 644 => cX6_isSetOfChildren
  | 645 => cX6_maySet
  | 646 => cX6_isKind
  | 647 => cX6_isSheet
  | 648 => cX6_isTraitValue
  | 649 => cX6_isWithin
  | 650 => cX6_has
  | 651 => cX6_isUnder
  | 652 => cX6_exchange
  | 700 => cX7_finds
  | 701 => cX7_in
  | 702 => cX7_within
  | 703 => cX7_copyAll
  | 704 => cX7_isChild
  | 705 => cX7_isLine
  | 706 => cX7_isSet
  | 707 => cX7_get
  | 708 => cX7_store
  | 709 => cX7_lineAt
  | 710 => cX7_becomes
  | 711 => cX7_bitsOf
  | 712 => cX7_comes
  | 713 => cX7_isTrait
  | 714 => cX7_child
  | 715 => cX7_wordsOf
  | 716 => cX7_of
  | 717 => cX7_set
  | 718 => cX7_adds
  | 719 => cX7_line
  | 720 => cX7_isHeaped
  | 721 => cX7_doesFit
  | 722 => cX7_saysOf
  | 723 => cX7_worthOf
  | 724 => cX7_lineOf
  | 725 => cX7_isUnder
  | 726 => cX7_as
  | 727 => cX7_turn
  | 728 => cX7_fits
  | 729 => cX7_fitting
  | 730 => cX7_all
  | 731 => cX7_writer
  | 732 => cX7_mostWorth
  | 733 => cX7_writes
  | 734 => cX7_report
  | 735 => cX7_rest
  | 736 => cX7_tear
  | 737 => cX7_put
  | 738 => cX7_year
  | 739 => cX7_years
  | 740 => cX7_now
  | 741 => cX7_canBe
  | 742 => cX7_whoseIs
  | 743 => cX7_whose
  | 744 => cX7_bitsAbout
  | 745 => cX7_bits
  | 746 => cX7_alikeWith
  | 747 => cX7_alike
  | 748 => cX7_swaps
  | 749 => cX7_plainest
  | 750 => cX7_wrong
  | 751 => cX7_planned
  | 752 => cX7_plan
  | 753 => cX7_order
  | 754 => cX7_isOrder
  | 755 => cX7_heap
  | 756 => cX7_allDiffer
  | 757 => cX7_lookedAt
  | 758 => cX7_look
  | 759 => cX7_whom
  | 760 => cX7_writtenNow
  | 761 => cX7_lean
  | 762 => cX7_feed
  | 763 => cX7_wipe
  | 764 => cX7_isAt
  | 765 => cX7_nameHere
  | 766 => cX7_next
  | 767 => cX7_isName
  | 768 => cX7_takesName
  | 769 => cX7_takesNumber
  | 770 => cX7_perhaps
  | 771 => cX7_lineItem
  | 772 => cX7_childItem
  | 773 => cX7_item
  | 774 => cX7_text
  | 775 => cX7_isSheet
  | 776 => cX7_sheet
  | 777 => cX7_write
  | 778 => cX7_has
  | 779 => cX7_copy
  | 780 => cX7_lays
  | 781 => cX7_read
  | 782 => cX7_image
  | 783 => cX7_undo
  | 784 => cX7_burn
  | 785 => cX7_reportMany
  | 786 => cX7_wordsAll
  | 787 => cX7_count
  | 788 => cX7_status
  | 800 => cJ0_length_8abf5
  | 801 => cJ0_charAt_5068e
  | 802 => cJ0_coder_7d493
  | 803 => cJ0_isLatin1_aae02
  | 804 => cJ0_checkIndex_df160
  | 900 => cJ6_numberOfTrailingZeros_0f7a4
  | 901 => cJ6_bitCount_0f7a4
  | 910 => cJ9_max_7cf53
  | 911 => cJ9_min_7cf53
  | 920 => cJ1_charAt_3b067
  | 930 => cJ7_fill_d0a16
  | 940 => cJ3_checkIndex_8e157
  | 1000 => cL_law
  | _ => ⟨#[]⟩
def rty : Nat → Option FieldType := fun k => match k with
  | 0 => some .int
  | 1 => some .boolean
  | 2 => some .boolean
  | 3 => some .boolean
  | 4 => some .int
  | 5 => some .boolean
  | 6 => some .int
  | 7 => some .boolean
  | 8 => none
  | 9 => some .boolean
  | 10 => some .boolean
  | 100 => none
  | 101 => none
  | 102 => some .int
  | 103 => some .int
  | 200 => some .int
  | 201 => some .boolean
  | 202 => some .int
  | 203 => none
  | 204 => none
  | 300 => none
  | 301 => some .int
  | 302 => some .int
  | 303 => some .boolean
  | 304 => some .int
  | 305 => some .int
  | 306 => some .int
  | 307 => some .int
  | 308 => some .int
  | 309 => some .int
  | 310 => none
  | 311 => some .int
  | 312 => some .int
  | 313 => some .int
  | 314 => some .int
  | 400 => some .boolean
  | 401 => none
  | 402 => some .long
  | 403 => some .boolean
  | 500 => none
  | 501 => some .boolean
  | 502 => some .int
  | 600 => some .int
  | 601 => some .int
  | 602 => some .int
  | 603 => some .int
  | 604 => some .int
  | 605 => some .int
  | 606 => some .int
  | 607 => some .int
  | 608 => some .int
  | 609 => some .int
  | 610 => some .int
  | 611 => some .int
  | 612 => some .int
  | 613 => some .int
  | 614 => some .int
  | 615 => some .int
  | 616 => some .int
  | 617 => some .int
  | 618 => some .int
  | 619 => some .int
  | 620 => some .int
  | 621 => some .int
  | 622 => some .int
  | 623 => some .int
  | 624 => some .int
  | 625 => some .int
  | 626 => some .int
  | 627 => some .int
  | 628 => some .int
  | 629 => some .int
  | 630 => some .int
  | 631 => some .int
  | 632 => some .long
  | 633 => some .int
  | 634 => some .int
  | 635 => some .int
  | 636 => some .int
  | 637 => some .int
  | 638 => some .int
  | 639 => some .int
  | 640 => some .int
  | 641 => some .int
  | 642 => some .boolean
  | 643 => some .boolean
  | 644 => some .boolean
  | 645 => some .boolean
  | 646 => some .boolean
  | 647 => some .boolean
  | 648 => some .boolean
  | 649 => some .boolean
  | 650 => some .boolean
  | 651 => some .boolean
  | 652 => some .int
  | 700 => some .int
  | 701 => some .boolean
  | 702 => some .int
  | 703 => none
  | 704 => some .boolean
  | 705 => some .boolean
  | 706 => some .boolean
  | 707 => some .int
  | 708 => none
  | 709 => some .int
  | 710 => some .int
  | 711 => some .int
  | 712 => none
  | 713 => some .boolean
  | 714 => some .int
  | 715 => some .int
  | 716 => some .int
  | 717 => some .int
  | 718 => none
  | 719 => some .int
  | 720 => some .boolean
  | 721 => some .boolean
  | 722 => some .int
  | 723 => some .int
  | 724 => some .int
  | 725 => some .boolean
  | 726 => some .int
  | 727 => some .int
  | 728 => some .int
  | 729 => some .int
  | 730 => some .int
  | 731 => some .int
  | 732 => some .int
  | 733 => none
  | 734 => some .int
  | 735 => some .int
  | 736 => some .int
  | 737 => some .int
  | 738 => none
  | 739 => some .int
  | 740 => some .int
  | 741 => some .boolean
  | 742 => some .int
  | 743 => some .int
  | 744 => some .int
  | 745 => some .int
  | 746 => some .int
  | 747 => some .int
  | 748 => some .int
  | 749 => some .int
  | 750 => some .int
  | 751 => some .int
  | 752 => some .int
  | 753 => some .int
  | 754 => some .boolean
  | 755 => some .int
  | 756 => some .boolean
  | 757 => some .int
  | 758 => some .int
  | 759 => some .int
  | 760 => some .int
  | 761 => some .int
  | 762 => some .int
  | 763 => some .int
  | 764 => some .boolean
  | 765 => some .int
  | 766 => none
  | 767 => some .boolean
  | 768 => some .int
  | 769 => some .int
  | 770 => some .int
  | 771 => none
  | 772 => none
  | 773 => none
  | 774 => some .int
  | 775 => some .boolean
  | 776 => some .int
  | 777 => some .long
  | 778 => some .boolean
  | 779 => some .int
  | 780 => some .int
  | 781 => some .int
  | 782 => some .int
  | 783 => some .int
  | 784 => some .int
  | 785 => some .int
  | 786 => some .int
  | 787 => some .int
  | 788 => some .int
  | 800 => some .int
  | 801 => some .char
  | 802 => some .byte
  | 803 => some .boolean
  | 804 => none
  | 900 => some .int
  | 901 => some .int
  | 910 => some .int
  | 911 => some .int
  | 920 => some .char
  | 930 => none
  | 940 => some .int
  | 1000 => some .boolean
  | _ => none
theorem wc_0 : Cond.code (yN 0) (byt 0) (mLx 0) (rty 0) ∈ gw := gw_in 626 (by decide +kernel) (by decide +kernel)
theorem wi_0 : Cond.initialized (csN (cxN 0)) ∈ gw := gw_in 61 (by decide +kernel) (by decide +kernel)
theorem wv_0 : Cond.instanceMethod (yN 0) ∈ gw := gw_in 624 (by decide +kernel) (by decide +kernel)
theorem wz_0 : Cond.selects (yN 0).cls (yN 0) (yN 0) ∈ gw := gw_in 625 (by decide +kernel) (by decide +kernel)
theorem wc_1 : Cond.code (yN 1) (byt 1) (mLx 1) (rty 1) ∈ gw := gw_in 641 (by decide +kernel) (by decide +kernel)
theorem wv_1 : Cond.instanceMethod (yN 1) ∈ gw := gw_in 640 (by decide +kernel) (by decide +kernel)
theorem wz_1 : Cond.selects (yN 1).cls (yN 1) (yN 1) ∈ gw := gw_in 8 (by decide +kernel) (by decide +kernel)
theorem wc_2 : Cond.code (yN 2) (byt 2) (mLx 2) (rty 2) ∈ gw := gw_in 721 (by decide +kernel) (by decide +kernel)
theorem wv_2 : Cond.instanceMethod (yN 2) ∈ gw := gw_in 720 (by decide +kernel) (by decide +kernel)
theorem wz_2 : Cond.selects (yN 2).cls (yN 2) (yN 2) ∈ gw := gw_in 14 (by decide +kernel) (by decide +kernel)
theorem wc_3 : Cond.code (yN 3) (byt 3) (mLx 3) (rty 3) ∈ gw := gw_in 706 (by decide +kernel) (by decide +kernel)
theorem wv_3 : Cond.instanceMethod (yN 3) ∈ gw := gw_in 705 (by decide +kernel) (by decide +kernel)
theorem wz_3 : Cond.selects (yN 3).cls (yN 3) (yN 3) ∈ gw := gw_in 12 (by decide +kernel) (by decide +kernel)
theorem wc_4 : Cond.code (yN 4) (byt 4) (mLx 4) (rty 4) ∈ gw := gw_in 711 (by decide +kernel) (by decide +kernel)
theorem wv_4 : Cond.instanceMethod (yN 4) ∈ gw := gw_in 710 (by decide +kernel) (by decide +kernel)
theorem wz_4 : Cond.selects (yN 4).cls (yN 4) (yN 4) ∈ gw := gw_in 13 (by decide +kernel) (by decide +kernel)
theorem wc_5 : Cond.code (yN 5) (byt 5) (mLx 5) (rty 5) ∈ gw := gw_in 646 (by decide +kernel) (by decide +kernel)
theorem wv_5 : Cond.instanceMethod (yN 5) ∈ gw := gw_in 645 (by decide +kernel) (by decide +kernel)
theorem wz_5 : Cond.selects (yN 5).cls (yN 5) (yN 5) ∈ gw := gw_in 9 (by decide +kernel) (by decide +kernel)
theorem wc_6 : Cond.code (yN 6) (byt 6) (mLx 6) (rty 6) ∈ gw := gw_in 650 (by decide +kernel) (by decide +kernel)
theorem wv_6 : Cond.instanceMethod (yN 6) ∈ gw := gw_in 649 (by decide +kernel) (by decide +kernel)
theorem wz_6 : Cond.selects (yN 6).cls (yN 6) (yN 6) ∈ gw := gw_in 10 (by decide +kernel) (by decide +kernel)
theorem wc_7 : Cond.code (yN 7) (byt 7) (mLx 7) (rty 7) ∈ gw := gw_in 702 (by decide +kernel) (by decide +kernel)
theorem wv_7 : Cond.instanceMethod (yN 7) ∈ gw := gw_in 701 (by decide +kernel) (by decide +kernel)
theorem wz_7 : Cond.selects (yN 7).cls (yN 7) (yN 7) ∈ gw := gw_in 11 (by decide +kernel) (by decide +kernel)
theorem wc_8 : Cond.code (yN 8) (byt 8) (mLx 8) (rty 8) ∈ gw := gw_in 630 (by decide +kernel) (by decide +kernel)
theorem wv_8 : Cond.instanceMethod (yN 8) ∈ gw := gw_in 629 (by decide +kernel) (by decide +kernel)
theorem wz_8 : Cond.selects (yN 8).cls (yN 8) (yN 8) ∈ gw := gw_in 7 (by decide +kernel) (by decide +kernel)
theorem wc_9 : Cond.code (yN 9) (byt 9) (mLx 9) (rty 9) ∈ gw := gw_in 633 (by decide +kernel) (by decide +kernel)
theorem ws_9 : Cond.static (yN 9) ∈ gw := gw_in 632 (by decide +kernel) (by decide +kernel)
theorem wc_10 : Cond.code (yN 10) (byt 10) (mLx 10) (rty 10) ∈ gw := gw_in 636 (by decide +kernel) (by decide +kernel)
theorem ws_10 : Cond.static (yN 10) ∈ gw := gw_in 635 (by decide +kernel) (by decide +kernel)
theorem wc_100 : Cond.code (yN 100) (byt 100) (mLx 100) (rty 100) ∈ gw := gw_in 436 (by decide +kernel) (by decide +kernel)
theorem wi_100 : Cond.initialized (csN (cxN 100)) ∈ gw := gw_in 58 (by decide +kernel) (by decide +kernel)
theorem wv_100 : Cond.instanceMethod (yN 100) ∈ gw := gw_in 434 (by decide +kernel) (by decide +kernel)
theorem wz_100 : Cond.selects (yN 100).cls (yN 100) (yN 100) ∈ gw := gw_in 435 (by decide +kernel) (by decide +kernel)
theorem wc_101 : Cond.code (yN 101) (byt 101) (mLx 101) (rty 101) ∈ gw := gw_in 432 (by decide +kernel) (by decide +kernel)
theorem wv_101 : Cond.instanceMethod (yN 101) ∈ gw := gw_in 430 (by decide +kernel) (by decide +kernel)
theorem wz_101 : Cond.selects (yN 101).cls (yN 101) (yN 101) ∈ gw := gw_in 431 (by decide +kernel) (by decide +kernel)
theorem wc_102 : Cond.code (yN 102) (byt 102) (mLx 102) (rty 102) ∈ gw := gw_in 441 (by decide +kernel) (by decide +kernel)
theorem wv_102 : Cond.instanceMethod (yN 102) ∈ gw := gw_in 440 (by decide +kernel) (by decide +kernel)
theorem wz_102 : Cond.selects (yN 102).cls (yN 102) (yN 102) ∈ gw := gw_in 4 (by decide +kernel) (by decide +kernel)
theorem wc_103 : Cond.code (yN 103) (byt 103) (mLx 103) (rty 103) ∈ gw := gw_in 449 (by decide +kernel) (by decide +kernel)
theorem wv_103 : Cond.instanceMethod (yN 103) ∈ gw := gw_in 448 (by decide +kernel) (by decide +kernel)
theorem wz_103 : Cond.selects (yN 103).cls (yN 103) (yN 103) ∈ gw := gw_in 5 (by decide +kernel) (by decide +kernel)
theorem wc_200 : Cond.code (yN 200) (byt 200) (mLx 200) (rty 200) ∈ gw := gw_in 540 (by decide +kernel) (by decide +kernel)
theorem wi_200 : Cond.initialized (csN (cxN 200)) ∈ gw := gw_in 59 (by decide +kernel) (by decide +kernel)
theorem ws_200 : Cond.static (yN 200) ∈ gw := gw_in 539 (by decide +kernel) (by decide +kernel)
theorem wc_201 : Cond.code (yN 201) (byt 201) (mLx 201) (rty 201) ∈ gw := gw_in 544 (by decide +kernel) (by decide +kernel)
theorem wv_201 : Cond.instanceMethod (yN 201) ∈ gw := gw_in 542 (by decide +kernel) (by decide +kernel)
theorem wz_201 : Cond.selects (yN 201).cls (yN 201) (yN 201) ∈ gw := gw_in 543 (by decide +kernel) (by decide +kernel)
theorem wc_202 : Cond.code (yN 202) (byt 202) (mLx 202) (rty 202) ∈ gw := gw_in 549 (by decide +kernel) (by decide +kernel)
theorem wv_202 : Cond.instanceMethod (yN 202) ∈ gw := gw_in 547 (by decide +kernel) (by decide +kernel)
theorem wz_202 : Cond.selects (yN 202).cls (yN 202) (yN 202) ∈ gw := gw_in 548 (by decide +kernel) (by decide +kernel)
theorem wc_203 : Cond.code (yN 203) (byt 203) (mLx 203) (rty 203) ∈ gw := gw_in 566 (by decide +kernel) (by decide +kernel)
theorem wv_203 : Cond.instanceMethod (yN 203) ∈ gw := gw_in 564 (by decide +kernel) (by decide +kernel)
theorem wz_203 : Cond.selects (yN 203).cls (yN 203) (yN 203) ∈ gw := gw_in 565 (by decide +kernel) (by decide +kernel)
theorem wc_204 : Cond.code (yN 204) (byt 204) (mLx 204) (rty 204) ∈ gw := gw_in 569 (by decide +kernel) (by decide +kernel)
theorem ws_204 : Cond.static (yN 204) ∈ gw := gw_in 568 (by decide +kernel) (by decide +kernel)
theorem wc_300 : Cond.code (yN 300) (byt 300) (mLx 300) (rty 300) ∈ gw := gw_in 553 (by decide +kernel) (by decide +kernel)
theorem wi_300 : Cond.initialized (csN (cxN 300)) ∈ gw := gw_in 57 (by decide +kernel) (by decide +kernel)
theorem wv_300 : Cond.instanceMethod (yN 300) ∈ gw := gw_in 551 (by decide +kernel) (by decide +kernel)
theorem wz_300 : Cond.selects (yN 300).cls (yN 300) (yN 300) ∈ gw := gw_in 552 (by decide +kernel) (by decide +kernel)
theorem wc_301 : Cond.code (yN 301) (byt 301) (mLx 301) (rty 301) ∈ gw := gw_in 332 (by decide +kernel) (by decide +kernel)
theorem wv_301 : Cond.instanceMethod (yN 301) ∈ gw := gw_in 330 (by decide +kernel) (by decide +kernel)
theorem wz_301 : Cond.selects (yN 301).cls (yN 301) (yN 301) ∈ gw := gw_in 331 (by decide +kernel) (by decide +kernel)
theorem wc_302 : Cond.code (yN 302) (byt 302) (mLx 302) (rty 302) ∈ gw := gw_in 371 (by decide +kernel) (by decide +kernel)
theorem wv_302 : Cond.instanceMethod (yN 302) ∈ gw := gw_in 369 (by decide +kernel) (by decide +kernel)
theorem wz_302 : Cond.selects (yN 302).cls (yN 302) (yN 302) ∈ gw := gw_in 370 (by decide +kernel) (by decide +kernel)
theorem wc_303 : Cond.code (yN 303) (byt 303) (mLx 303) (rty 303) ∈ gw := gw_in 387 (by decide +kernel) (by decide +kernel)
theorem wv_303 : Cond.instanceMethod (yN 303) ∈ gw := gw_in 385 (by decide +kernel) (by decide +kernel)
theorem wz_303 : Cond.selects (yN 303).cls (yN 303) (yN 303) ∈ gw := gw_in 386 (by decide +kernel) (by decide +kernel)
theorem wc_304 : Cond.code (yN 304) (byt 304) (mLx 304) (rty 304) ∈ gw := gw_in 416 (by decide +kernel) (by decide +kernel)
theorem wv_304 : Cond.instanceMethod (yN 304) ∈ gw := gw_in 414 (by decide +kernel) (by decide +kernel)
theorem wz_304 : Cond.selects (yN 304).cls (yN 304) (yN 304) ∈ gw := gw_in 415 (by decide +kernel) (by decide +kernel)
theorem wc_305 : Cond.code (yN 305) (byt 305) (mLx 305) (rty 305) ∈ gw := gw_in 383 (by decide +kernel) (by decide +kernel)
theorem wv_305 : Cond.instanceMethod (yN 305) ∈ gw := gw_in 381 (by decide +kernel) (by decide +kernel)
theorem wz_305 : Cond.selects (yN 305).cls (yN 305) (yN 305) ∈ gw := gw_in 382 (by decide +kernel) (by decide +kernel)
theorem wc_306 : Cond.code (yN 306) (byt 306) (mLx 306) (rty 306) ∈ gw := gw_in 391 (by decide +kernel) (by decide +kernel)
theorem wv_306 : Cond.instanceMethod (yN 306) ∈ gw := gw_in 389 (by decide +kernel) (by decide +kernel)
theorem wz_306 : Cond.selects (yN 306).cls (yN 306) (yN 306) ∈ gw := gw_in 390 (by decide +kernel) (by decide +kernel)
theorem wc_307 : Cond.code (yN 307) (byt 307) (mLx 307) (rty 307) ∈ gw := gw_in 344 (by decide +kernel) (by decide +kernel)
theorem wv_307 : Cond.instanceMethod (yN 307) ∈ gw := gw_in 342 (by decide +kernel) (by decide +kernel)
theorem wz_307 : Cond.selects (yN 307).cls (yN 307) (yN 307) ∈ gw := gw_in 343 (by decide +kernel) (by decide +kernel)
theorem wc_308 : Cond.code (yN 308) (byt 308) (mLx 308) (rty 308) ∈ gw := gw_in 793 (by decide +kernel) (by decide +kernel)
theorem wv_308 : Cond.instanceMethod (yN 308) ∈ gw := gw_in 791 (by decide +kernel) (by decide +kernel)
theorem wz_308 : Cond.selects (yN 308).cls (yN 308) (yN 308) ∈ gw := gw_in 792 (by decide +kernel) (by decide +kernel)
theorem wc_309 : Cond.code (yN 309) (byt 309) (mLx 309) (rty 309) ∈ gw := gw_in 789 (by decide +kernel) (by decide +kernel)
theorem wv_309 : Cond.instanceMethod (yN 309) ∈ gw := gw_in 787 (by decide +kernel) (by decide +kernel)
theorem wz_309 : Cond.selects (yN 309).cls (yN 309) (yN 309) ∈ gw := gw_in 788 (by decide +kernel) (by decide +kernel)
theorem wc_310 : Cond.code (yN 310) (byt 310) (mLx 310) (rty 310) ∈ gw := gw_in 485 (by decide +kernel) (by decide +kernel)
theorem wv_310 : Cond.instanceMethod (yN 310) ∈ gw := gw_in 483 (by decide +kernel) (by decide +kernel)
theorem wz_310 : Cond.selects (yN 310).cls (yN 310) (yN 310) ∈ gw := gw_in 484 (by decide +kernel) (by decide +kernel)
theorem wc_311 : Cond.code (yN 311) (byt 311) (mLx 311) (rty 311) ∈ gw := gw_in 495 (by decide +kernel) (by decide +kernel)
theorem wv_311 : Cond.instanceMethod (yN 311) ∈ gw := gw_in 493 (by decide +kernel) (by decide +kernel)
theorem wz_311 : Cond.selects (yN 311).cls (yN 311) (yN 311) ∈ gw := gw_in 494 (by decide +kernel) (by decide +kernel)
theorem wc_312 : Cond.code (yN 312) (byt 312) (mLx 312) (rty 312) ∈ gw := gw_in 504 (by decide +kernel) (by decide +kernel)
theorem wv_312 : Cond.instanceMethod (yN 312) ∈ gw := gw_in 502 (by decide +kernel) (by decide +kernel)
theorem wz_312 : Cond.selects (yN 312).cls (yN 312) (yN 312) ∈ gw := gw_in 503 (by decide +kernel) (by decide +kernel)
theorem wc_313 : Cond.code (yN 313) (byt 313) (mLx 313) (rty 313) ∈ gw := gw_in 519 (by decide +kernel) (by decide +kernel)
theorem wv_313 : Cond.instanceMethod (yN 313) ∈ gw := gw_in 517 (by decide +kernel) (by decide +kernel)
theorem wz_313 : Cond.selects (yN 313).cls (yN 313) (yN 313) ∈ gw := gw_in 518 (by decide +kernel) (by decide +kernel)
theorem wc_314 : Cond.code (yN 314) (byt 314) (mLx 314) (rty 314) ∈ gw := gw_in 599 (by decide +kernel) (by decide +kernel)
theorem wv_314 : Cond.instanceMethod (yN 314) ∈ gw := gw_in 597 (by decide +kernel) (by decide +kernel)
theorem wz_314 : Cond.selects (yN 314).cls (yN 314) (yN 314) ∈ gw := gw_in 598 (by decide +kernel) (by decide +kernel)
theorem wc_400 : Cond.code (yN 400) (byt 400) (mLx 400) (rty 400) ∈ gw := gw_in 747 (by decide +kernel) (by decide +kernel)
theorem wi_400 : Cond.initialized (csN (cxN 400)) ∈ gw := gw_in 62 (by decide +kernel) (by decide +kernel)
theorem wv_400 : Cond.instanceMethod (yN 400) ∈ gw := gw_in 745 (by decide +kernel) (by decide +kernel)
theorem wz_400 : Cond.selects (yN 400).cls (yN 400) (yN 400) ∈ gw := gw_in 746 (by decide +kernel) (by decide +kernel)
theorem wc_401 : Cond.code (yN 401) (byt 401) (mLx 401) (rty 401) ∈ gw := gw_in 736 (by decide +kernel) (by decide +kernel)
theorem wv_401 : Cond.instanceMethod (yN 401) ∈ gw := gw_in 734 (by decide +kernel) (by decide +kernel)
theorem wz_401 : Cond.selects (yN 401).cls (yN 401) (yN 401) ∈ gw := gw_in 735 (by decide +kernel) (by decide +kernel)
theorem wc_402 : Cond.code (yN 402) (byt 402) (mLx 402) (rty 402) ∈ gw := gw_in 752 (by decide +kernel) (by decide +kernel)
theorem wv_402 : Cond.instanceMethod (yN 402) ∈ gw := gw_in 750 (by decide +kernel) (by decide +kernel)
theorem wz_402 : Cond.selects (yN 402).cls (yN 402) (yN 402) ∈ gw := gw_in 751 (by decide +kernel) (by decide +kernel)
theorem wc_403 : Cond.code (yN 403) (byt 403) (mLx 403) (rty 403) ∈ gw := gw_in 760 (by decide +kernel) (by decide +kernel)
theorem wv_403 : Cond.instanceMethod (yN 403) ∈ gw := gw_in 758 (by decide +kernel) (by decide +kernel)
theorem wz_403 : Cond.selects (yN 403).cls (yN 403) (yN 403) ∈ gw := gw_in 759 (by decide +kernel) (by decide +kernel)
theorem wc_500 : Cond.code (yN 500) (byt 500) (mLx 500) (rty 500) ∈ gw := gw_in 579 (by decide +kernel) (by decide +kernel)
theorem wi_500 : Cond.initialized (csN (cxN 500)) ∈ gw := gw_in 60 (by decide +kernel) (by decide +kernel)
theorem wv_500 : Cond.instanceMethod (yN 500) ∈ gw := gw_in 577 (by decide +kernel) (by decide +kernel)
theorem wz_500 : Cond.selects (yN 500).cls (yN 500) (yN 500) ∈ gw := gw_in 578 (by decide +kernel) (by decide +kernel)
theorem wc_501 : Cond.code (yN 501) (byt 501) (mLx 501) (rty 501) ∈ gw := gw_in 585 (by decide +kernel) (by decide +kernel)
theorem wv_501 : Cond.instanceMethod (yN 501) ∈ gw := gw_in 583 (by decide +kernel) (by decide +kernel)
theorem wz_501 : Cond.selects (yN 501).cls (yN 501) (yN 501) ∈ gw := gw_in 584 (by decide +kernel) (by decide +kernel)
theorem wc_502 : Cond.code (yN 502) (byt 502) (mLx 502) (rty 502) ∈ gw := gw_in 589 (by decide +kernel) (by decide +kernel)
theorem wv_502 : Cond.instanceMethod (yN 502) ∈ gw := gw_in 587 (by decide +kernel) (by decide +kernel)
theorem wz_502 : Cond.selects (yN 502).cls (yN 502) (yN 502) ∈ gw := gw_in 588 (by decide +kernel) (by decide +kernel)
theorem wc_600 : Cond.code (yN 600) (byt 600) (mLx 600) (rty 600) ∈ gw := gw_in 316 (by decide +kernel) (by decide +kernel)
theorem wi_600 : Cond.initialized (csN (cxN 600)) ∈ gw := gw_in 56 (by decide +kernel) (by decide +kernel)
theorem wv_600 : Cond.instanceMethod (yN 600) ∈ gw := gw_in 314 (by decide +kernel) (by decide +kernel)
theorem wz_600 : Cond.selects (yN 600).cls (yN 600) (yN 600) ∈ gw := gw_in 315 (by decide +kernel) (by decide +kernel)
theorem wc_601 : Cond.code (yN 601) (byt 601) (mLx 601) (rty 601) ∈ gw := gw_in 336 (by decide +kernel) (by decide +kernel)
theorem wv_601 : Cond.instanceMethod (yN 601) ∈ gw := gw_in 334 (by decide +kernel) (by decide +kernel)
theorem wz_601 : Cond.selects (yN 601).cls (yN 601) (yN 601) ∈ gw := gw_in 335 (by decide +kernel) (by decide +kernel)
theorem wc_602 : Cond.code (yN 602) (byt 602) (mLx 602) (rty 602) ∈ gw := gw_in 351 (by decide +kernel) (by decide +kernel)
theorem wv_602 : Cond.instanceMethod (yN 602) ∈ gw := gw_in 349 (by decide +kernel) (by decide +kernel)
theorem wz_602 : Cond.selects (yN 602).cls (yN 602) (yN 602) ∈ gw := gw_in 350 (by decide +kernel) (by decide +kernel)
theorem wc_603 : Cond.code (yN 603) (byt 603) (mLx 603) (rty 603) ∈ gw := gw_in 362 (by decide +kernel) (by decide +kernel)
theorem wv_603 : Cond.instanceMethod (yN 603) ∈ gw := gw_in 360 (by decide +kernel) (by decide +kernel)
theorem wz_603 : Cond.selects (yN 603).cls (yN 603) (yN 603) ∈ gw := gw_in 361 (by decide +kernel) (by decide +kernel)
theorem wc_604 : Cond.code (yN 604) (byt 604) (mLx 604) (rty 604) ∈ gw := gw_in 375 (by decide +kernel) (by decide +kernel)
theorem wv_604 : Cond.instanceMethod (yN 604) ∈ gw := gw_in 373 (by decide +kernel) (by decide +kernel)
theorem wz_604 : Cond.selects (yN 604).cls (yN 604) (yN 604) ∈ gw := gw_in 374 (by decide +kernel) (by decide +kernel)
theorem wc_605 : Cond.code (yN 605) (byt 605) (mLx 605) (rty 605) ∈ gw := gw_in 395 (by decide +kernel) (by decide +kernel)
theorem wv_605 : Cond.instanceMethod (yN 605) ∈ gw := gw_in 393 (by decide +kernel) (by decide +kernel)
theorem wz_605 : Cond.selects (yN 605).cls (yN 605) (yN 605) ∈ gw := gw_in 394 (by decide +kernel) (by decide +kernel)
theorem wc_606 : Cond.code (yN 606) (byt 606) (mLx 606) (rty 606) ∈ gw := gw_in 403 (by decide +kernel) (by decide +kernel)
theorem wv_606 : Cond.instanceMethod (yN 606) ∈ gw := gw_in 401 (by decide +kernel) (by decide +kernel)
theorem wz_606 : Cond.selects (yN 606).cls (yN 606) (yN 606) ∈ gw := gw_in 402 (by decide +kernel) (by decide +kernel)
theorem wc_607 : Cond.code (yN 607) (byt 607) (mLx 607) (rty 607) ∈ gw := gw_in 407 (by decide +kernel) (by decide +kernel)
theorem wv_607 : Cond.instanceMethod (yN 607) ∈ gw := gw_in 405 (by decide +kernel) (by decide +kernel)
theorem wz_607 : Cond.selects (yN 607).cls (yN 607) (yN 607) ∈ gw := gw_in 406 (by decide +kernel) (by decide +kernel)
theorem wc_608 : Cond.code (yN 608) (byt 608) (mLx 608) (rty 608) ∈ gw := gw_in 412 (by decide +kernel) (by decide +kernel)
theorem wv_608 : Cond.instanceMethod (yN 608) ∈ gw := gw_in 410 (by decide +kernel) (by decide +kernel)
theorem wz_608 : Cond.selects (yN 608).cls (yN 608) (yN 608) ∈ gw := gw_in 411 (by decide +kernel) (by decide +kernel)
theorem wc_609 : Cond.code (yN 609) (byt 609) (mLx 609) (rty 609) ∈ gw := gw_in 420 (by decide +kernel) (by decide +kernel)
theorem wv_609 : Cond.instanceMethod (yN 609) ∈ gw := gw_in 418 (by decide +kernel) (by decide +kernel)
theorem wz_609 : Cond.selects (yN 609).cls (yN 609) (yN 609) ∈ gw := gw_in 419 (by decide +kernel) (by decide +kernel)
theorem wc_610 : Cond.code (yN 610) (byt 610) (mLx 610) (rty 610) ∈ gw := gw_in 428 (by decide +kernel) (by decide +kernel)
theorem wv_610 : Cond.instanceMethod (yN 610) ∈ gw := gw_in 426 (by decide +kernel) (by decide +kernel)
theorem wz_610 : Cond.selects (yN 610).cls (yN 610) (yN 610) ∈ gw := gw_in 427 (by decide +kernel) (by decide +kernel)
theorem wc_611 : Cond.code (yN 611) (byt 611) (mLx 611) (rty 611) ∈ gw := gw_in 461 (by decide +kernel) (by decide +kernel)
theorem wv_611 : Cond.instanceMethod (yN 611) ∈ gw := gw_in 459 (by decide +kernel) (by decide +kernel)
theorem wz_611 : Cond.selects (yN 611).cls (yN 611) (yN 611) ∈ gw := gw_in 460 (by decide +kernel) (by decide +kernel)
theorem wc_612 : Cond.code (yN 612) (byt 612) (mLx 612) (rty 612) ∈ gw := gw_in 468 (by decide +kernel) (by decide +kernel)
theorem wv_612 : Cond.instanceMethod (yN 612) ∈ gw := gw_in 466 (by decide +kernel) (by decide +kernel)
theorem wz_612 : Cond.selects (yN 612).cls (yN 612) (yN 612) ∈ gw := gw_in 467 (by decide +kernel) (by decide +kernel)
theorem wc_613 : Cond.code (yN 613) (byt 613) (mLx 613) (rty 613) ∈ gw := gw_in 477 (by decide +kernel) (by decide +kernel)
theorem wv_613 : Cond.instanceMethod (yN 613) ∈ gw := gw_in 475 (by decide +kernel) (by decide +kernel)
theorem wz_613 : Cond.selects (yN 613).cls (yN 613) (yN 613) ∈ gw := gw_in 476 (by decide +kernel) (by decide +kernel)
theorem wc_614 : Cond.code (yN 614) (byt 614) (mLx 614) (rty 614) ∈ gw := gw_in 481 (by decide +kernel) (by decide +kernel)
theorem wv_614 : Cond.instanceMethod (yN 614) ∈ gw := gw_in 479 (by decide +kernel) (by decide +kernel)
theorem wz_614 : Cond.selects (yN 614).cls (yN 614) (yN 614) ∈ gw := gw_in 480 (by decide +kernel) (by decide +kernel)
theorem wc_615 : Cond.code (yN 615) (byt 615) (mLx 615) (rty 615) ∈ gw := gw_in 424 (by decide +kernel) (by decide +kernel)
theorem wv_615 : Cond.instanceMethod (yN 615) ∈ gw := gw_in 422 (by decide +kernel) (by decide +kernel)
theorem wz_615 : Cond.selects (yN 615).cls (yN 615) (yN 615) ∈ gw := gw_in 423 (by decide +kernel) (by decide +kernel)
theorem wc_616 : Cond.code (yN 616) (byt 616) (mLx 616) (rty 616) ∈ gw := gw_in 491 (by decide +kernel) (by decide +kernel)
theorem wv_616 : Cond.instanceMethod (yN 616) ∈ gw := gw_in 489 (by decide +kernel) (by decide +kernel)
theorem wz_616 : Cond.selects (yN 616).cls (yN 616) (yN 616) ∈ gw := gw_in 490 (by decide +kernel) (by decide +kernel)
theorem wc_617 : Cond.code (yN 617) (byt 617) (mLx 617) (rty 617) ∈ gw := gw_in 500 (by decide +kernel) (by decide +kernel)
theorem wv_617 : Cond.instanceMethod (yN 617) ∈ gw := gw_in 498 (by decide +kernel) (by decide +kernel)
theorem wz_617 : Cond.selects (yN 617).cls (yN 617) (yN 617) ∈ gw := gw_in 499 (by decide +kernel) (by decide +kernel)
theorem wc_618 : Cond.code (yN 618) (byt 618) (mLx 618) (rty 618) ∈ gw := gw_in 515 (by decide +kernel) (by decide +kernel)
theorem wv_618 : Cond.instanceMethod (yN 618) ∈ gw := gw_in 513 (by decide +kernel) (by decide +kernel)
theorem wz_618 : Cond.selects (yN 618).cls (yN 618) (yN 618) ∈ gw := gw_in 514 (by decide +kernel) (by decide +kernel)
theorem wc_619 : Cond.code (yN 619) (byt 619) (mLx 619) (rty 619) ∈ gw := gw_in 523 (by decide +kernel) (by decide +kernel)
theorem wv_619 : Cond.instanceMethod (yN 619) ∈ gw := gw_in 521 (by decide +kernel) (by decide +kernel)
theorem wz_619 : Cond.selects (yN 619).cls (yN 619) (yN 619) ∈ gw := gw_in 522 (by decide +kernel) (by decide +kernel)
theorem wc_620 : Cond.code (yN 620) (byt 620) (mLx 620) (rty 620) ∈ gw := gw_in 528 (by decide +kernel) (by decide +kernel)
theorem wv_620 : Cond.instanceMethod (yN 620) ∈ gw := gw_in 526 (by decide +kernel) (by decide +kernel)
theorem wz_620 : Cond.selects (yN 620).cls (yN 620) (yN 620) ∈ gw := gw_in 527 (by decide +kernel) (by decide +kernel)
theorem wc_621 : Cond.code (yN 621) (byt 621) (mLx 621) (rty 621) ∈ gw := gw_in 533 (by decide +kernel) (by decide +kernel)
theorem wv_621 : Cond.instanceMethod (yN 621) ∈ gw := gw_in 531 (by decide +kernel) (by decide +kernel)
theorem wz_621 : Cond.selects (yN 621).cls (yN 621) (yN 621) ∈ gw := gw_in 532 (by decide +kernel) (by decide +kernel)
theorem wc_622 : Cond.code (yN 622) (byt 622) (mLx 622) (rty 622) ∈ gw := gw_in 537 (by decide +kernel) (by decide +kernel)
theorem wv_622 : Cond.instanceMethod (yN 622) ∈ gw := gw_in 535 (by decide +kernel) (by decide +kernel)
theorem wz_622 : Cond.selects (yN 622).cls (yN 622) (yN 622) ∈ gw := gw_in 536 (by decide +kernel) (by decide +kernel)
theorem wc_623 : Cond.code (yN 623) (byt 623) (mLx 623) (rty 623) ∈ gw := gw_in 561 (by decide +kernel) (by decide +kernel)
theorem wv_623 : Cond.instanceMethod (yN 623) ∈ gw := gw_in 559 (by decide +kernel) (by decide +kernel)
theorem wz_623 : Cond.selects (yN 623).cls (yN 623) (yN 623) ∈ gw := gw_in 560 (by decide +kernel) (by decide +kernel)
theorem wc_624 : Cond.code (yN 624) (byt 624) (mLx 624) (rty 624) ∈ gw := gw_in 575 (by decide +kernel) (by decide +kernel)
theorem wv_624 : Cond.instanceMethod (yN 624) ∈ gw := gw_in 573 (by decide +kernel) (by decide +kernel)
theorem wz_624 : Cond.selects (yN 624).cls (yN 624) (yN 624) ∈ gw := gw_in 574 (by decide +kernel) (by decide +kernel)
theorem wc_625 : Cond.code (yN 625) (byt 625) (mLx 625) (rty 625) ∈ gw := gw_in 595 (by decide +kernel) (by decide +kernel)
theorem wv_625 : Cond.instanceMethod (yN 625) ∈ gw := gw_in 593 (by decide +kernel) (by decide +kernel)
theorem wz_625 : Cond.selects (yN 625).cls (yN 625) (yN 625) ∈ gw := gw_in 594 (by decide +kernel) (by decide +kernel)
theorem wc_626 : Cond.code (yN 626) (byt 626) (mLx 626) (rty 626) ∈ gw := gw_in 604 (by decide +kernel) (by decide +kernel)
theorem wv_626 : Cond.instanceMethod (yN 626) ∈ gw := gw_in 602 (by decide +kernel) (by decide +kernel)
theorem wz_626 : Cond.selects (yN 626).cls (yN 626) (yN 626) ∈ gw := gw_in 603 (by decide +kernel) (by decide +kernel)
theorem wc_627 : Cond.code (yN 627) (byt 627) (mLx 627) (rty 627) ∈ gw := gw_in 608 (by decide +kernel) (by decide +kernel)
theorem wv_627 : Cond.instanceMethod (yN 627) ∈ gw := gw_in 606 (by decide +kernel) (by decide +kernel)
theorem wz_627 : Cond.selects (yN 627).cls (yN 627) (yN 627) ∈ gw := gw_in 607 (by decide +kernel) (by decide +kernel)
theorem wc_628 : Cond.code (yN 628) (byt 628) (mLx 628) (rty 628) ∈ gw := gw_in 613 (by decide +kernel) (by decide +kernel)
theorem wv_628 : Cond.instanceMethod (yN 628) ∈ gw := gw_in 611 (by decide +kernel) (by decide +kernel)
theorem wz_628 : Cond.selects (yN 628).cls (yN 628) (yN 628) ∈ gw := gw_in 612 (by decide +kernel) (by decide +kernel)
theorem wc_629 : Cond.code (yN 629) (byt 629) (mLx 629) (rty 629) ∈ gw := gw_in 617 (by decide +kernel) (by decide +kernel)
theorem wv_629 : Cond.instanceMethod (yN 629) ∈ gw := gw_in 615 (by decide +kernel) (by decide +kernel)
theorem wz_629 : Cond.selects (yN 629).cls (yN 629) (yN 629) ∈ gw := gw_in 616 (by decide +kernel) (by decide +kernel)
theorem wc_630 : Cond.code (yN 630) (byt 630) (mLx 630) (rty 630) ∈ gw := gw_in 621 (by decide +kernel) (by decide +kernel)
theorem wv_630 : Cond.instanceMethod (yN 630) ∈ gw := gw_in 619 (by decide +kernel) (by decide +kernel)
theorem wz_630 : Cond.selects (yN 630).cls (yN 630) (yN 630) ∈ gw := gw_in 620 (by decide +kernel) (by decide +kernel)
theorem wc_631 : Cond.code (yN 631) (byt 631) (mLx 631) (rty 631) ∈ gw := gw_in 729 (by decide +kernel) (by decide +kernel)
theorem wv_631 : Cond.instanceMethod (yN 631) ∈ gw := gw_in 727 (by decide +kernel) (by decide +kernel)
theorem wz_631 : Cond.selects (yN 631).cls (yN 631) (yN 631) ∈ gw := gw_in 728 (by decide +kernel) (by decide +kernel)
theorem wc_632 : Cond.code (yN 632) (byt 632) (mLx 632) (rty 632) ∈ gw := gw_in 743 (by decide +kernel) (by decide +kernel)
theorem wv_632 : Cond.instanceMethod (yN 632) ∈ gw := gw_in 741 (by decide +kernel) (by decide +kernel)
theorem wz_632 : Cond.selects (yN 632).cls (yN 632) (yN 632) ∈ gw := gw_in 742 (by decide +kernel) (by decide +kernel)
theorem wc_633 : Cond.code (yN 633) (byt 633) (mLx 633) (rty 633) ∈ gw := gw_in 756 (by decide +kernel) (by decide +kernel)
theorem wv_633 : Cond.instanceMethod (yN 633) ∈ gw := gw_in 754 (by decide +kernel) (by decide +kernel)
theorem wz_633 : Cond.selects (yN 633).cls (yN 633) (yN 633) ∈ gw := gw_in 755 (by decide +kernel) (by decide +kernel)
theorem wc_634 : Cond.code (yN 634) (byt 634) (mLx 634) (rty 634) ∈ gw := gw_in 765 (by decide +kernel) (by decide +kernel)
theorem wv_634 : Cond.instanceMethod (yN 634) ∈ gw := gw_in 763 (by decide +kernel) (by decide +kernel)
theorem wz_634 : Cond.selects (yN 634).cls (yN 634) (yN 634) ∈ gw := gw_in 764 (by decide +kernel) (by decide +kernel)
theorem wc_635 : Cond.code (yN 635) (byt 635) (mLx 635) (rty 635) ∈ gw := gw_in 769 (by decide +kernel) (by decide +kernel)
theorem wv_635 : Cond.instanceMethod (yN 635) ∈ gw := gw_in 767 (by decide +kernel) (by decide +kernel)
theorem wz_635 : Cond.selects (yN 635).cls (yN 635) (yN 635) ∈ gw := gw_in 768 (by decide +kernel) (by decide +kernel)
theorem wc_636 : Cond.code (yN 636) (byt 636) (mLx 636) (rty 636) ∈ gw := gw_in 773 (by decide +kernel) (by decide +kernel)
theorem wv_636 : Cond.instanceMethod (yN 636) ∈ gw := gw_in 771 (by decide +kernel) (by decide +kernel)
theorem wz_636 : Cond.selects (yN 636).cls (yN 636) (yN 636) ∈ gw := gw_in 772 (by decide +kernel) (by decide +kernel)
theorem wc_637 : Cond.code (yN 637) (byt 637) (mLx 637) (rty 637) ∈ gw := gw_in 777 (by decide +kernel) (by decide +kernel)
theorem wv_637 : Cond.instanceMethod (yN 637) ∈ gw := gw_in 775 (by decide +kernel) (by decide +kernel)
theorem wz_637 : Cond.selects (yN 637).cls (yN 637) (yN 637) ∈ gw := gw_in 776 (by decide +kernel) (by decide +kernel)
theorem wc_638 : Cond.code (yN 638) (byt 638) (mLx 638) (rty 638) ∈ gw := gw_in 781 (by decide +kernel) (by decide +kernel)
theorem wv_638 : Cond.instanceMethod (yN 638) ∈ gw := gw_in 779 (by decide +kernel) (by decide +kernel)
theorem wz_638 : Cond.selects (yN 638).cls (yN 638) (yN 638) ∈ gw := gw_in 780 (by decide +kernel) (by decide +kernel)
theorem wc_639 : Cond.code (yN 639) (byt 639) (mLx 639) (rty 639) ∈ gw := gw_in 785 (by decide +kernel) (by decide +kernel)
theorem wv_639 : Cond.instanceMethod (yN 639) ∈ gw := gw_in 783 (by decide +kernel) (by decide +kernel)
theorem wz_639 : Cond.selects (yN 639).cls (yN 639) (yN 639) ∈ gw := gw_in 784 (by decide +kernel) (by decide +kernel)
theorem wc_640 : Cond.code (yN 640) (byt 640) (mLx 640) (rty 640) ∈ gw := gw_in 798 (by decide +kernel) (by decide +kernel)
theorem wv_640 : Cond.instanceMethod (yN 640) ∈ gw := gw_in 796 (by decide +kernel) (by decide +kernel)
theorem wz_640 : Cond.selects (yN 640).cls (yN 640) (yN 640) ∈ gw := gw_in 797 (by decide +kernel) (by decide +kernel)
theorem wc_641 : Cond.code (yN 641) (byt 641) (mLx 641) (rty 641) ∈ gw := gw_in 327 (by decide +kernel) (by decide +kernel)
theorem wv_641 : Cond.instanceMethod (yN 641) ∈ gw := gw_in 326 (by decide +kernel) (by decide +kernel)
theorem wz_641 : Cond.selects (yN 641).cls (yN 641) (yN 641) ∈ gw := gw_in 0 (by decide +kernel) (by decide +kernel)
theorem wc_642 : Cond.code (yN 642) (byt 642) (mLx 642) (rty 642) ∈ gw := gw_in 340 (by decide +kernel) (by decide +kernel)
theorem wv_642 : Cond.instanceMethod (yN 642) ∈ gw := gw_in 339 (by decide +kernel) (by decide +kernel)
theorem wz_642 : Cond.selects (yN 642).cls (yN 642) (yN 642) ∈ gw := gw_in 1 (by decide +kernel) (by decide +kernel)
theorem wc_643 : Cond.code (yN 643) (byt 643) (mLx 643) (rty 643) ∈ gw := gw_in 379 (by decide +kernel) (by decide +kernel)
theorem wv_643 : Cond.instanceMethod (yN 643) ∈ gw := gw_in 378 (by decide +kernel) (by decide +kernel)
theorem wz_643 : Cond.selects (yN 643).cls (yN 643) (yN 643) ∈ gw := gw_in 3 (by decide +kernel) (by decide +kernel)
theorem wc_644 : Cond.code (yN 644) (byt 644) (mLx 644) (rty 644) ∈ gw := gw_in 472 (by decide +kernel) (by decide +kernel)
theorem wv_644 : Cond.instanceMethod (yN 644) ∈ gw := gw_in 471 (by decide +kernel) (by decide +kernel)
theorem wz_644 : Cond.selects (yN 644).cls (yN 644) (yN 644) ∈ gw := gw_in 6 (by decide +kernel) (by decide +kernel)
theorem wc_645 : Cond.code (yN 645) (byt 645) (mLx 645) (rty 645) ∈ gw := gw_in 355 (by decide +kernel) (by decide +kernel)
theorem wv_645 : Cond.instanceMethod (yN 645) ∈ gw := gw_in 354 (by decide +kernel) (by decide +kernel)
theorem wz_645 : Cond.selects (yN 645).cls (yN 645) (yN 645) ∈ gw := gw_in 2 (by decide +kernel) (by decide +kernel)
theorem wc_646 : Cond.code (yN 646) (byt 646) (mLx 646) (rty 646) ∈ gw := gw_in 365 (by decide +kernel) (by decide +kernel)
theorem ws_646 : Cond.static (yN 646) ∈ gw := gw_in 364 (by decide +kernel) (by decide +kernel)
theorem wc_647 : Cond.code (yN 647) (byt 647) (mLx 647) (rty 647) ∈ gw := gw_in 732 (by decide +kernel) (by decide +kernel)
theorem ws_647 : Cond.static (yN 647) ∈ gw := gw_in 731 (by decide +kernel) (by decide +kernel)
theorem wc_648 : Cond.code (yN 648) (byt 648) (mLx 648) (rty 648) ∈ gw := gw_in 319 (by decide +kernel) (by decide +kernel)
theorem ws_648 : Cond.static (yN 648) ∈ gw := gw_in 318 (by decide +kernel) (by decide +kernel)
theorem wc_649 : Cond.code (yN 649) (byt 649) (mLx 649) (rty 649) ∈ gw := gw_in 322 (by decide +kernel) (by decide +kernel)
theorem ws_649 : Cond.static (yN 649) ∈ gw := gw_in 321 (by decide +kernel) (by decide +kernel)
theorem wc_650 : Cond.code (yN 650) (byt 650) (mLx 650) (rty 650) ∈ gw := gw_in 347 (by decide +kernel) (by decide +kernel)
theorem ws_650 : Cond.static (yN 650) ∈ gw := gw_in 346 (by decide +kernel) (by decide +kernel)
theorem wc_651 : Cond.code (yN 651) (byt 651) (mLx 651) (rty 651) ∈ gw := gw_in 398 (by decide +kernel) (by decide +kernel)
theorem ws_651 : Cond.static (yN 651) ∈ gw := gw_in 397 (by decide +kernel) (by decide +kernel)
theorem wc_652 : Cond.code (yN 652) (byt 652) (mLx 652) (rty 652) ∈ gw := gw_in 358 (by decide +kernel) (by decide +kernel)
theorem ws_652 : Cond.static (yN 652) ∈ gw := gw_in 357 (by decide +kernel) (by decide +kernel)
theorem wc_700 : Cond.code (yN 700) (byt 700) (mLx 700) (rty 700) ∈ gw := gw_in 899 (by decide +kernel) (by decide +kernel)
theorem wi_700 : Cond.initialized (csN (cxN 700)) ∈ gw := gw_in 63 (by decide +kernel) (by decide +kernel)
theorem wv_700 : Cond.instanceMethod (yN 700) ∈ gw := gw_in 898 (by decide +kernel) (by decide +kernel)
theorem wz_700 : Cond.selects (yN 700).cls (yN 700) (yN 700) ∈ gw := gw_in 15 (by decide +kernel) (by decide +kernel)
theorem wc_701 : Cond.code (yN 701) (byt 701) (mLx 701) (rty 701) ∈ gw := gw_in 894 (by decide +kernel) (by decide +kernel)
theorem ws_701 : Cond.static (yN 701) ∈ gw := gw_in 893 (by decide +kernel) (by decide +kernel)
theorem wc_702 : Cond.code (yN 702) (byt 702) (mLx 702) (rty 702) ∈ gw := gw_in 1011 (by decide +kernel) (by decide +kernel)
theorem ws_702 : Cond.static (yN 702) ∈ gw := gw_in 1010 (by decide +kernel) (by decide +kernel)
theorem wc_703 : Cond.code (yN 703) (byt 703) (mLx 703) (rty 703) ∈ gw := gw_in 1093 (by decide +kernel) (by decide +kernel)
theorem ws_703 : Cond.static (yN 703) ∈ gw := gw_in 1092 (by decide +kernel) (by decide +kernel)
theorem wc_704 : Cond.code (yN 704) (byt 704) (mLx 704) (rty 704) ∈ gw := gw_in 916 (by decide +kernel) (by decide +kernel)
theorem wv_704 : Cond.instanceMethod (yN 704) ∈ gw := gw_in 915 (by decide +kernel) (by decide +kernel)
theorem wz_704 : Cond.selects (yN 704).cls (yN 704) (yN 704) ∈ gw := gw_in 18 (by decide +kernel) (by decide +kernel)
theorem wc_705 : Cond.code (yN 705) (byt 705) (mLx 705) (rty 705) ∈ gw := gw_in 952 (by decide +kernel) (by decide +kernel)
theorem wv_705 : Cond.instanceMethod (yN 705) ∈ gw := gw_in 951 (by decide +kernel) (by decide +kernel)
theorem wz_705 : Cond.selects (yN 705).cls (yN 705) (yN 705) ∈ gw := gw_in 24 (by decide +kernel) (by decide +kernel)
theorem wc_706 : Cond.code (yN 706) (byt 706) (mLx 706) (rty 706) ∈ gw := gw_in 1022 (by decide +kernel) (by decide +kernel)
theorem ws_706 : Cond.static (yN 706) ∈ gw := gw_in 1021 (by decide +kernel) (by decide +kernel)
theorem wc_707 : Cond.code (yN 707) (byt 707) (mLx 707) (rty 707) ∈ gw := gw_in 920 (by decide +kernel) (by decide +kernel)
theorem wv_707 : Cond.instanceMethod (yN 707) ∈ gw := gw_in 919 (by decide +kernel) (by decide +kernel)
theorem wz_707 : Cond.selects (yN 707).cls (yN 707) (yN 707) ∈ gw := gw_in 19 (by decide +kernel) (by decide +kernel)
theorem wc_708 : Cond.code (yN 708) (byt 708) (mLx 708) (rty 708) ∈ gw := gw_in 908 (by decide +kernel) (by decide +kernel)
theorem wv_708 : Cond.instanceMethod (yN 708) ∈ gw := gw_in 907 (by decide +kernel) (by decide +kernel)
theorem wz_708 : Cond.selects (yN 708).cls (yN 708) (yN 708) ∈ gw := gw_in 17 (by decide +kernel) (by decide +kernel)
theorem wc_709 : Cond.code (yN 709) (byt 709) (mLx 709) (rty 709) ∈ gw := gw_in 928 (by decide +kernel) (by decide +kernel)
theorem wv_709 : Cond.instanceMethod (yN 709) ∈ gw := gw_in 927 (by decide +kernel) (by decide +kernel)
theorem wz_709 : Cond.selects (yN 709).cls (yN 709) (yN 709) ∈ gw := gw_in 21 (by decide +kernel) (by decide +kernel)
theorem wc_710 : Cond.code (yN 710) (byt 710) (mLx 710) (rty 710) ∈ gw := gw_in 936 (by decide +kernel) (by decide +kernel)
theorem wv_710 : Cond.instanceMethod (yN 710) ∈ gw := gw_in 935 (by decide +kernel) (by decide +kernel)
theorem wz_710 : Cond.selects (yN 710).cls (yN 710) (yN 710) ∈ gw := gw_in 22 (by decide +kernel) (by decide +kernel)
theorem wc_711 : Cond.code (yN 711) (byt 711) (mLx 711) (rty 711) ∈ gw := gw_in 1061 (by decide +kernel) (by decide +kernel)
theorem ws_711 : Cond.static (yN 711) ∈ gw := gw_in 1060 (by decide +kernel) (by decide +kernel)
theorem wc_712 : Cond.code (yN 712) (byt 712) (mLx 712) (rty 712) ∈ gw := gw_in 904 (by decide +kernel) (by decide +kernel)
theorem wv_712 : Cond.instanceMethod (yN 712) ∈ gw := gw_in 903 (by decide +kernel) (by decide +kernel)
theorem wz_712 : Cond.selects (yN 712).cls (yN 712) (yN 712) ∈ gw := gw_in 16 (by decide +kernel) (by decide +kernel)
theorem wc_713 : Cond.code (yN 713) (byt 713) (mLx 713) (rty 713) ∈ gw := gw_in 891 (by decide +kernel) (by decide +kernel)
theorem ws_713 : Cond.static (yN 713) ∈ gw := gw_in 890 (by decide +kernel) (by decide +kernel)
theorem wc_714 : Cond.code (yN 714) (byt 714) (mLx 714) (rty 714) ∈ gw := gw_in 888 (by decide +kernel) (by decide +kernel)
theorem wv_714 : Cond.instanceMethod (yN 714) ∈ gw := gw_in 886 (by decide +kernel) (by decide +kernel)
theorem wz_714 : Cond.selects (yN 714).cls (yN 714) (yN 714) ∈ gw := gw_in 887 (by decide +kernel) (by decide +kernel)
theorem wc_715 : Cond.code (yN 715) (byt 715) (mLx 715) (rty 715) ∈ gw := gw_in 924 (by decide +kernel) (by decide +kernel)
theorem wv_715 : Cond.instanceMethod (yN 715) ∈ gw := gw_in 923 (by decide +kernel) (by decide +kernel)
theorem wz_715 : Cond.selects (yN 715).cls (yN 715) (yN 715) ∈ gw := gw_in 20 (by decide +kernel) (by decide +kernel)
theorem wc_716 : Cond.code (yN 716) (byt 716) (mLx 716) (rty 716) ∈ gw := gw_in 912 (by decide +kernel) (by decide +kernel)
theorem wv_716 : Cond.instanceMethod (yN 716) ∈ gw := gw_in 910 (by decide +kernel) (by decide +kernel)
theorem wz_716 : Cond.selects (yN 716).cls (yN 716) (yN 716) ∈ gw := gw_in 911 (by decide +kernel) (by decide +kernel)
theorem wc_717 : Cond.code (yN 717) (byt 717) (mLx 717) (rty 717) ∈ gw := gw_in 932 (by decide +kernel) (by decide +kernel)
theorem wv_717 : Cond.instanceMethod (yN 717) ∈ gw := gw_in 930 (by decide +kernel) (by decide +kernel)
theorem wz_717 : Cond.selects (yN 717).cls (yN 717) (yN 717) ∈ gw := gw_in 931 (by decide +kernel) (by decide +kernel)
theorem wc_718 : Cond.code (yN 718) (byt 718) (mLx 718) (rty 718) ∈ gw := gw_in 944 (by decide +kernel) (by decide +kernel)
theorem wv_718 : Cond.instanceMethod (yN 718) ∈ gw := gw_in 943 (by decide +kernel) (by decide +kernel)
theorem wz_718 : Cond.selects (yN 718).cls (yN 718) (yN 718) ∈ gw := gw_in 23 (by decide +kernel) (by decide +kernel)
theorem wc_719 : Cond.code (yN 719) (byt 719) (mLx 719) (rty 719) ∈ gw := gw_in 940 (by decide +kernel) (by decide +kernel)
theorem wv_719 : Cond.instanceMethod (yN 719) ∈ gw := gw_in 938 (by decide +kernel) (by decide +kernel)
theorem wz_719 : Cond.selects (yN 719).cls (yN 719) (yN 719) ∈ gw := gw_in 939 (by decide +kernel) (by decide +kernel)
theorem wc_720 : Cond.code (yN 720) (byt 720) (mLx 720) (rty 720) ∈ gw := gw_in 1004 (by decide +kernel) (by decide +kernel)
theorem wv_720 : Cond.instanceMethod (yN 720) ∈ gw := gw_in 1003 (by decide +kernel) (by decide +kernel)
theorem wz_720 : Cond.selects (yN 720).cls (yN 720) (yN 720) ∈ gw := gw_in 30 (by decide +kernel) (by decide +kernel)
theorem wc_721 : Cond.code (yN 721) (byt 721) (mLx 721) (rty 721) ∈ gw := gw_in 960 (by decide +kernel) (by decide +kernel)
theorem wv_721 : Cond.instanceMethod (yN 721) ∈ gw := gw_in 959 (by decide +kernel) (by decide +kernel)
theorem wz_721 : Cond.selects (yN 721).cls (yN 721) (yN 721) ∈ gw := gw_in 26 (by decide +kernel) (by decide +kernel)
theorem wc_722 : Cond.code (yN 722) (byt 722) (mLx 722) (rty 722) ∈ gw := gw_in 956 (by decide +kernel) (by decide +kernel)
theorem wv_722 : Cond.instanceMethod (yN 722) ∈ gw := gw_in 955 (by decide +kernel) (by decide +kernel)
theorem wz_722 : Cond.selects (yN 722).cls (yN 722) (yN 722) ∈ gw := gw_in 25 (by decide +kernel) (by decide +kernel)
theorem wc_723 : Cond.code (yN 723) (byt 723) (mLx 723) (rty 723) ∈ gw := gw_in 964 (by decide +kernel) (by decide +kernel)
theorem wv_723 : Cond.instanceMethod (yN 723) ∈ gw := gw_in 963 (by decide +kernel) (by decide +kernel)
theorem wz_723 : Cond.selects (yN 723).cls (yN 723) (yN 723) ∈ gw := gw_in 27 (by decide +kernel) (by decide +kernel)
theorem wc_724 : Cond.code (yN 724) (byt 724) (mLx 724) (rty 724) ∈ gw := gw_in 948 (by decide +kernel) (by decide +kernel)
theorem wv_724 : Cond.instanceMethod (yN 724) ∈ gw := gw_in 946 (by decide +kernel) (by decide +kernel)
theorem wz_724 : Cond.selects (yN 724).cls (yN 724) (yN 724) ∈ gw := gw_in 947 (by decide +kernel) (by decide +kernel)
theorem wc_725 : Cond.code (yN 725) (byt 725) (mLx 725) (rty 725) ∈ gw := gw_in 971 (by decide +kernel) (by decide +kernel)
theorem ws_725 : Cond.static (yN 725) ∈ gw := gw_in 970 (by decide +kernel) (by decide +kernel)
theorem wc_726 : Cond.code (yN 726) (byt 726) (mLx 726) (rty 726) ∈ gw := gw_in 968 (by decide +kernel) (by decide +kernel)
theorem wv_726 : Cond.instanceMethod (yN 726) ∈ gw := gw_in 966 (by decide +kernel) (by decide +kernel)
theorem wz_726 : Cond.selects (yN 726).cls (yN 726) (yN 726) ∈ gw := gw_in 967 (by decide +kernel) (by decide +kernel)
theorem wc_727 : Cond.code (yN 727) (byt 727) (mLx 727) (rty 727) ∈ gw := gw_in 976 (by decide +kernel) (by decide +kernel)
theorem wv_727 : Cond.instanceMethod (yN 727) ∈ gw := gw_in 974 (by decide +kernel) (by decide +kernel)
theorem wz_727 : Cond.selects (yN 727).cls (yN 727) (yN 727) ∈ gw := gw_in 975 (by decide +kernel) (by decide +kernel)
theorem wc_728 : Cond.code (yN 728) (byt 728) (mLx 728) (rty 728) ∈ gw := gw_in 980 (by decide +kernel) (by decide +kernel)
theorem wv_728 : Cond.instanceMethod (yN 728) ∈ gw := gw_in 978 (by decide +kernel) (by decide +kernel)
theorem wz_728 : Cond.selects (yN 728).cls (yN 728) (yN 728) ∈ gw := gw_in 979 (by decide +kernel) (by decide +kernel)
theorem wc_729 : Cond.code (yN 729) (byt 729) (mLx 729) (rty 729) ∈ gw := gw_in 988 (by decide +kernel) (by decide +kernel)
theorem wv_729 : Cond.instanceMethod (yN 729) ∈ gw := gw_in 987 (by decide +kernel) (by decide +kernel)
theorem wz_729 : Cond.selects (yN 729).cls (yN 729) (yN 729) ∈ gw := gw_in 28 (by decide +kernel) (by decide +kernel)
theorem wc_730 : Cond.code (yN 730) (byt 730) (mLx 730) (rty 730) ∈ gw := gw_in 984 (by decide +kernel) (by decide +kernel)
theorem wv_730 : Cond.instanceMethod (yN 730) ∈ gw := gw_in 982 (by decide +kernel) (by decide +kernel)
theorem wz_730 : Cond.selects (yN 730).cls (yN 730) (yN 730) ∈ gw := gw_in 983 (by decide +kernel) (by decide +kernel)
theorem wc_731 : Cond.code (yN 731) (byt 731) (mLx 731) (rty 731) ∈ gw := gw_in 992 (by decide +kernel) (by decide +kernel)
theorem wv_731 : Cond.instanceMethod (yN 731) ∈ gw := gw_in 990 (by decide +kernel) (by decide +kernel)
theorem wz_731 : Cond.selects (yN 731).cls (yN 731) (yN 731) ∈ gw := gw_in 991 (by decide +kernel) (by decide +kernel)
theorem wc_732 : Cond.code (yN 732) (byt 732) (mLx 732) (rty 732) ∈ gw := gw_in 1008 (by decide +kernel) (by decide +kernel)
theorem wv_732 : Cond.instanceMethod (yN 732) ∈ gw := gw_in 1007 (by decide +kernel) (by decide +kernel)
theorem wz_732 : Cond.selects (yN 732).cls (yN 732) (yN 732) ∈ gw := gw_in 31 (by decide +kernel) (by decide +kernel)
theorem wc_733 : Cond.code (yN 733) (byt 733) (mLx 733) (rty 733) ∈ gw := gw_in 1000 (by decide +kernel) (by decide +kernel)
theorem wv_733 : Cond.instanceMethod (yN 733) ∈ gw := gw_in 999 (by decide +kernel) (by decide +kernel)
theorem wz_733 : Cond.selects (yN 733).cls (yN 733) (yN 733) ∈ gw := gw_in 29 (by decide +kernel) (by decide +kernel)
theorem wc_734 : Cond.code (yN 734) (byt 734) (mLx 734) (rty 734) ∈ gw := gw_in 996 (by decide +kernel) (by decide +kernel)
theorem wv_734 : Cond.instanceMethod (yN 734) ∈ gw := gw_in 994 (by decide +kernel) (by decide +kernel)
theorem wz_734 : Cond.selects (yN 734).cls (yN 734) (yN 734) ∈ gw := gw_in 995 (by decide +kernel) (by decide +kernel)
theorem wc_735 : Cond.code (yN 735) (byt 735) (mLx 735) (rty 735) ∈ gw := gw_in 1015 (by decide +kernel) (by decide +kernel)
theorem wv_735 : Cond.instanceMethod (yN 735) ∈ gw := gw_in 1013 (by decide +kernel) (by decide +kernel)
theorem wz_735 : Cond.selects (yN 735).cls (yN 735) (yN 735) ∈ gw := gw_in 1014 (by decide +kernel) (by decide +kernel)
theorem wc_736 : Cond.code (yN 736) (byt 736) (mLx 736) (rty 736) ∈ gw := gw_in 1019 (by decide +kernel) (by decide +kernel)
theorem wv_736 : Cond.instanceMethod (yN 736) ∈ gw := gw_in 1017 (by decide +kernel) (by decide +kernel)
theorem wz_736 : Cond.selects (yN 736).cls (yN 736) (yN 736) ∈ gw := gw_in 1018 (by decide +kernel) (by decide +kernel)
theorem wc_737 : Cond.code (yN 737) (byt 737) (mLx 737) (rty 737) ∈ gw := gw_in 1026 (by decide +kernel) (by decide +kernel)
theorem wv_737 : Cond.instanceMethod (yN 737) ∈ gw := gw_in 1024 (by decide +kernel) (by decide +kernel)
theorem wz_737 : Cond.selects (yN 737).cls (yN 737) (yN 737) ∈ gw := gw_in 1025 (by decide +kernel) (by decide +kernel)
theorem wc_738 : Cond.code (yN 738) (byt 738) (mLx 738) (rty 738) ∈ gw := gw_in 1034 (by decide +kernel) (by decide +kernel)
theorem wv_738 : Cond.instanceMethod (yN 738) ∈ gw := gw_in 1033 (by decide +kernel) (by decide +kernel)
theorem wz_738 : Cond.selects (yN 738).cls (yN 738) (yN 738) ∈ gw := gw_in 32 (by decide +kernel) (by decide +kernel)
theorem wc_739 : Cond.code (yN 739) (byt 739) (mLx 739) (rty 739) ∈ gw := gw_in 1030 (by decide +kernel) (by decide +kernel)
theorem wv_739 : Cond.instanceMethod (yN 739) ∈ gw := gw_in 1028 (by decide +kernel) (by decide +kernel)
theorem wz_739 : Cond.selects (yN 739).cls (yN 739) (yN 739) ∈ gw := gw_in 1029 (by decide +kernel) (by decide +kernel)
theorem wc_740 : Cond.code (yN 740) (byt 740) (mLx 740) (rty 740) ∈ gw := gw_in 1038 (by decide +kernel) (by decide +kernel)
theorem wv_740 : Cond.instanceMethod (yN 740) ∈ gw := gw_in 1036 (by decide +kernel) (by decide +kernel)
theorem wz_740 : Cond.selects (yN 740).cls (yN 740) (yN 740) ∈ gw := gw_in 1037 (by decide +kernel) (by decide +kernel)
theorem wc_741 : Cond.code (yN 741) (byt 741) (mLx 741) (rty 741) ∈ gw := gw_in 1050 (by decide +kernel) (by decide +kernel)
theorem wv_741 : Cond.instanceMethod (yN 741) ∈ gw := gw_in 1049 (by decide +kernel) (by decide +kernel)
theorem wz_741 : Cond.selects (yN 741).cls (yN 741) (yN 741) ∈ gw := gw_in 34 (by decide +kernel) (by decide +kernel)
theorem wc_742 : Cond.code (yN 742) (byt 742) (mLx 742) (rty 742) ∈ gw := gw_in 1046 (by decide +kernel) (by decide +kernel)
theorem wv_742 : Cond.instanceMethod (yN 742) ∈ gw := gw_in 1045 (by decide +kernel) (by decide +kernel)
theorem wz_742 : Cond.selects (yN 742).cls (yN 742) (yN 742) ∈ gw := gw_in 33 (by decide +kernel) (by decide +kernel)
theorem wc_743 : Cond.code (yN 743) (byt 743) (mLx 743) (rty 743) ∈ gw := gw_in 1042 (by decide +kernel) (by decide +kernel)
theorem wv_743 : Cond.instanceMethod (yN 743) ∈ gw := gw_in 1040 (by decide +kernel) (by decide +kernel)
theorem wz_743 : Cond.selects (yN 743).cls (yN 743) (yN 743) ∈ gw := gw_in 1041 (by decide +kernel) (by decide +kernel)
theorem wc_744 : Cond.code (yN 744) (byt 744) (mLx 744) (rty 744) ∈ gw := gw_in 1058 (by decide +kernel) (by decide +kernel)
theorem wv_744 : Cond.instanceMethod (yN 744) ∈ gw := gw_in 1057 (by decide +kernel) (by decide +kernel)
theorem wz_744 : Cond.selects (yN 744).cls (yN 744) (yN 744) ∈ gw := gw_in 35 (by decide +kernel) (by decide +kernel)
theorem wc_745 : Cond.code (yN 745) (byt 745) (mLx 745) (rty 745) ∈ gw := gw_in 1054 (by decide +kernel) (by decide +kernel)
theorem wv_745 : Cond.instanceMethod (yN 745) ∈ gw := gw_in 1052 (by decide +kernel) (by decide +kernel)
theorem wz_745 : Cond.selects (yN 745).cls (yN 745) (yN 745) ∈ gw := gw_in 1053 (by decide +kernel) (by decide +kernel)
theorem wc_746 : Cond.code (yN 746) (byt 746) (mLx 746) (rty 746) ∈ gw := gw_in 1069 (by decide +kernel) (by decide +kernel)
theorem wv_746 : Cond.instanceMethod (yN 746) ∈ gw := gw_in 1068 (by decide +kernel) (by decide +kernel)
theorem wz_746 : Cond.selects (yN 746).cls (yN 746) (yN 746) ∈ gw := gw_in 36 (by decide +kernel) (by decide +kernel)
theorem wc_747 : Cond.code (yN 747) (byt 747) (mLx 747) (rty 747) ∈ gw := gw_in 1065 (by decide +kernel) (by decide +kernel)
theorem wv_747 : Cond.instanceMethod (yN 747) ∈ gw := gw_in 1063 (by decide +kernel) (by decide +kernel)
theorem wz_747 : Cond.selects (yN 747).cls (yN 747) (yN 747) ∈ gw := gw_in 1064 (by decide +kernel) (by decide +kernel)
theorem wc_748 : Cond.code (yN 748) (byt 748) (mLx 748) (rty 748) ∈ gw := gw_in 1073 (by decide +kernel) (by decide +kernel)
theorem wv_748 : Cond.instanceMethod (yN 748) ∈ gw := gw_in 1071 (by decide +kernel) (by decide +kernel)
theorem wz_748 : Cond.selects (yN 748).cls (yN 748) (yN 748) ∈ gw := gw_in 1072 (by decide +kernel) (by decide +kernel)
theorem wc_749 : Cond.code (yN 749) (byt 749) (mLx 749) (rty 749) ∈ gw := gw_in 1077 (by decide +kernel) (by decide +kernel)
theorem wv_749 : Cond.instanceMethod (yN 749) ∈ gw := gw_in 1075 (by decide +kernel) (by decide +kernel)
theorem wz_749 : Cond.selects (yN 749).cls (yN 749) (yN 749) ∈ gw := gw_in 1076 (by decide +kernel) (by decide +kernel)
theorem wc_750 : Cond.code (yN 750) (byt 750) (mLx 750) (rty 750) ∈ gw := gw_in 1082 (by decide +kernel) (by decide +kernel)
theorem wv_750 : Cond.instanceMethod (yN 750) ∈ gw := gw_in 1080 (by decide +kernel) (by decide +kernel)
theorem wz_750 : Cond.selects (yN 750).cls (yN 750) (yN 750) ∈ gw := gw_in 1081 (by decide +kernel) (by decide +kernel)
theorem wc_751 : Cond.code (yN 751) (byt 751) (mLx 751) (rty 751) ∈ gw := gw_in 1090 (by decide +kernel) (by decide +kernel)
theorem wv_751 : Cond.instanceMethod (yN 751) ∈ gw := gw_in 1089 (by decide +kernel) (by decide +kernel)
theorem wz_751 : Cond.selects (yN 751).cls (yN 751) (yN 751) ∈ gw := gw_in 37 (by decide +kernel) (by decide +kernel)
theorem wc_752 : Cond.code (yN 752) (byt 752) (mLx 752) (rty 752) ∈ gw := gw_in 1086 (by decide +kernel) (by decide +kernel)
theorem wv_752 : Cond.instanceMethod (yN 752) ∈ gw := gw_in 1084 (by decide +kernel) (by decide +kernel)
theorem wz_752 : Cond.selects (yN 752).cls (yN 752) (yN 752) ∈ gw := gw_in 1085 (by decide +kernel) (by decide +kernel)
theorem wc_753 : Cond.code (yN 753) (byt 753) (mLx 753) (rty 753) ∈ gw := gw_in 1097 (by decide +kernel) (by decide +kernel)
theorem wv_753 : Cond.instanceMethod (yN 753) ∈ gw := gw_in 1095 (by decide +kernel) (by decide +kernel)
theorem wz_753 : Cond.selects (yN 753).cls (yN 753) (yN 753) ∈ gw := gw_in 1096 (by decide +kernel) (by decide +kernel)
theorem wc_754 : Cond.code (yN 754) (byt 754) (mLx 754) (rty 754) ∈ gw := gw_in 1102 (by decide +kernel) (by decide +kernel)
theorem wv_754 : Cond.instanceMethod (yN 754) ∈ gw := gw_in 1101 (by decide +kernel) (by decide +kernel)
theorem wz_754 : Cond.selects (yN 754).cls (yN 754) (yN 754) ∈ gw := gw_in 38 (by decide +kernel) (by decide +kernel)
theorem wc_755 : Cond.code (yN 755) (byt 755) (mLx 755) (rty 755) ∈ gw := gw_in 1106 (by decide +kernel) (by decide +kernel)
theorem wv_755 : Cond.instanceMethod (yN 755) ∈ gw := gw_in 1104 (by decide +kernel) (by decide +kernel)
theorem wz_755 : Cond.selects (yN 755).cls (yN 755) (yN 755) ∈ gw := gw_in 1105 (by decide +kernel) (by decide +kernel)
theorem wc_756 : Cond.code (yN 756) (byt 756) (mLx 756) (rty 756) ∈ gw := gw_in 1110 (by decide +kernel) (by decide +kernel)
theorem wv_756 : Cond.instanceMethod (yN 756) ∈ gw := gw_in 1109 (by decide +kernel) (by decide +kernel)
theorem wz_756 : Cond.selects (yN 756).cls (yN 756) (yN 756) ∈ gw := gw_in 39 (by decide +kernel) (by decide +kernel)
theorem wc_757 : Cond.code (yN 757) (byt 757) (mLx 757) (rty 757) ∈ gw := gw_in 1118 (by decide +kernel) (by decide +kernel)
theorem wv_757 : Cond.instanceMethod (yN 757) ∈ gw := gw_in 1117 (by decide +kernel) (by decide +kernel)
theorem wz_757 : Cond.selects (yN 757).cls (yN 757) (yN 757) ∈ gw := gw_in 40 (by decide +kernel) (by decide +kernel)
theorem wc_758 : Cond.code (yN 758) (byt 758) (mLx 758) (rty 758) ∈ gw := gw_in 1114 (by decide +kernel) (by decide +kernel)
theorem wv_758 : Cond.instanceMethod (yN 758) ∈ gw := gw_in 1112 (by decide +kernel) (by decide +kernel)
theorem wz_758 : Cond.selects (yN 758).cls (yN 758) (yN 758) ∈ gw := gw_in 1113 (by decide +kernel) (by decide +kernel)
theorem wc_759 : Cond.code (yN 759) (byt 759) (mLx 759) (rty 759) ∈ gw := gw_in 1122 (by decide +kernel) (by decide +kernel)
theorem wv_759 : Cond.instanceMethod (yN 759) ∈ gw := gw_in 1120 (by decide +kernel) (by decide +kernel)
theorem wz_759 : Cond.selects (yN 759).cls (yN 759) (yN 759) ∈ gw := gw_in 1121 (by decide +kernel) (by decide +kernel)
theorem wc_760 : Cond.code (yN 760) (byt 760) (mLx 760) (rty 760) ∈ gw := gw_in 1130 (by decide +kernel) (by decide +kernel)
theorem wv_760 : Cond.instanceMethod (yN 760) ∈ gw := gw_in 1129 (by decide +kernel) (by decide +kernel)
theorem wz_760 : Cond.selects (yN 760).cls (yN 760) (yN 760) ∈ gw := gw_in 41 (by decide +kernel) (by decide +kernel)
theorem wc_761 : Cond.code (yN 761) (byt 761) (mLx 761) (rty 761) ∈ gw := gw_in 1126 (by decide +kernel) (by decide +kernel)
theorem wv_761 : Cond.instanceMethod (yN 761) ∈ gw := gw_in 1124 (by decide +kernel) (by decide +kernel)
theorem wz_761 : Cond.selects (yN 761).cls (yN 761) (yN 761) ∈ gw := gw_in 1125 (by decide +kernel) (by decide +kernel)
theorem wc_762 : Cond.code (yN 762) (byt 762) (mLx 762) (rty 762) ∈ gw := gw_in 1134 (by decide +kernel) (by decide +kernel)
theorem wv_762 : Cond.instanceMethod (yN 762) ∈ gw := gw_in 1132 (by decide +kernel) (by decide +kernel)
theorem wz_762 : Cond.selects (yN 762).cls (yN 762) (yN 762) ∈ gw := gw_in 1133 (by decide +kernel) (by decide +kernel)
theorem wc_763 : Cond.code (yN 763) (byt 763) (mLx 763) (rty 763) ∈ gw := gw_in 1138 (by decide +kernel) (by decide +kernel)
theorem wv_763 : Cond.instanceMethod (yN 763) ∈ gw := gw_in 1136 (by decide +kernel) (by decide +kernel)
theorem wz_763 : Cond.selects (yN 763).cls (yN 763) (yN 763) ∈ gw := gw_in 1137 (by decide +kernel) (by decide +kernel)
theorem wc_764 : Cond.code (yN 764) (byt 764) (mLx 764) (rty 764) ∈ gw := gw_in 1150 (by decide +kernel) (by decide +kernel)
theorem wv_764 : Cond.instanceMethod (yN 764) ∈ gw := gw_in 1149 (by decide +kernel) (by decide +kernel)
theorem wz_764 : Cond.selects (yN 764).cls (yN 764) (yN 764) ∈ gw := gw_in 43 (by decide +kernel) (by decide +kernel)
theorem wc_765 : Cond.code (yN 765) (byt 765) (mLx 765) (rty 765) ∈ gw := gw_in 1154 (by decide +kernel) (by decide +kernel)
theorem wv_765 : Cond.instanceMethod (yN 765) ∈ gw := gw_in 1153 (by decide +kernel) (by decide +kernel)
theorem wz_765 : Cond.selects (yN 765).cls (yN 765) (yN 765) ∈ gw := gw_in 44 (by decide +kernel) (by decide +kernel)
theorem wc_766 : Cond.code (yN 766) (byt 766) (mLx 766) (rty 766) ∈ gw := gw_in 1146 (by decide +kernel) (by decide +kernel)
theorem wv_766 : Cond.instanceMethod (yN 766) ∈ gw := gw_in 1145 (by decide +kernel) (by decide +kernel)
theorem wz_766 : Cond.selects (yN 766).cls (yN 766) (yN 766) ∈ gw := gw_in 42 (by decide +kernel) (by decide +kernel)
theorem wc_767 : Cond.code (yN 767) (byt 767) (mLx 767) (rty 767) ∈ gw := gw_in 1178 (by decide +kernel) (by decide +kernel)
theorem wv_767 : Cond.instanceMethod (yN 767) ∈ gw := gw_in 1177 (by decide +kernel) (by decide +kernel)
theorem wz_767 : Cond.selects (yN 767).cls (yN 767) (yN 767) ∈ gw := gw_in 50 (by decide +kernel) (by decide +kernel)
theorem wc_768 : Cond.code (yN 768) (byt 768) (mLx 768) (rty 768) ∈ gw := gw_in 1166 (by decide +kernel) (by decide +kernel)
theorem wv_768 : Cond.instanceMethod (yN 768) ∈ gw := gw_in 1165 (by decide +kernel) (by decide +kernel)
theorem wz_768 : Cond.selects (yN 768).cls (yN 768) (yN 768) ∈ gw := gw_in 47 (by decide +kernel) (by decide +kernel)
theorem wc_769 : Cond.code (yN 769) (byt 769) (mLx 769) (rty 769) ∈ gw := gw_in 1170 (by decide +kernel) (by decide +kernel)
theorem wv_769 : Cond.instanceMethod (yN 769) ∈ gw := gw_in 1169 (by decide +kernel) (by decide +kernel)
theorem wz_769 : Cond.selects (yN 769).cls (yN 769) (yN 769) ∈ gw := gw_in 48 (by decide +kernel) (by decide +kernel)
theorem wc_770 : Cond.code (yN 770) (byt 770) (mLx 770) (rty 770) ∈ gw := gw_in 1174 (by decide +kernel) (by decide +kernel)
theorem wv_770 : Cond.instanceMethod (yN 770) ∈ gw := gw_in 1173 (by decide +kernel) (by decide +kernel)
theorem wz_770 : Cond.selects (yN 770).cls (yN 770) (yN 770) ∈ gw := gw_in 49 (by decide +kernel) (by decide +kernel)
theorem wc_771 : Cond.code (yN 771) (byt 771) (mLx 771) (rty 771) ∈ gw := gw_in 1162 (by decide +kernel) (by decide +kernel)
theorem wv_771 : Cond.instanceMethod (yN 771) ∈ gw := gw_in 1161 (by decide +kernel) (by decide +kernel)
theorem wz_771 : Cond.selects (yN 771).cls (yN 771) (yN 771) ∈ gw := gw_in 46 (by decide +kernel) (by decide +kernel)
theorem wc_772 : Cond.code (yN 772) (byt 772) (mLx 772) (rty 772) ∈ gw := gw_in 1182 (by decide +kernel) (by decide +kernel)
theorem wv_772 : Cond.instanceMethod (yN 772) ∈ gw := gw_in 1181 (by decide +kernel) (by decide +kernel)
theorem wz_772 : Cond.selects (yN 772).cls (yN 772) (yN 772) ∈ gw := gw_in 51 (by decide +kernel) (by decide +kernel)
theorem wc_773 : Cond.code (yN 773) (byt 773) (mLx 773) (rty 773) ∈ gw := gw_in 1158 (by decide +kernel) (by decide +kernel)
theorem wv_773 : Cond.instanceMethod (yN 773) ∈ gw := gw_in 1157 (by decide +kernel) (by decide +kernel)
theorem wz_773 : Cond.selects (yN 773).cls (yN 773) (yN 773) ∈ gw := gw_in 45 (by decide +kernel) (by decide +kernel)
theorem wc_774 : Cond.code (yN 774) (byt 774) (mLx 774) (rty 774) ∈ gw := gw_in 1142 (by decide +kernel) (by decide +kernel)
theorem wv_774 : Cond.instanceMethod (yN 774) ∈ gw := gw_in 1140 (by decide +kernel) (by decide +kernel)
theorem wz_774 : Cond.selects (yN 774).cls (yN 774) (yN 774) ∈ gw := gw_in 1141 (by decide +kernel) (by decide +kernel)
theorem wc_775 : Cond.code (yN 775) (byt 775) (mLx 775) (rty 775) ∈ gw := gw_in 1189 (by decide +kernel) (by decide +kernel)
theorem ws_775 : Cond.static (yN 775) ∈ gw := gw_in 1188 (by decide +kernel) (by decide +kernel)
theorem wc_776 : Cond.code (yN 776) (byt 776) (mLx 776) (rty 776) ∈ gw := gw_in 1186 (by decide +kernel) (by decide +kernel)
theorem wv_776 : Cond.instanceMethod (yN 776) ∈ gw := gw_in 1184 (by decide +kernel) (by decide +kernel)
theorem wz_776 : Cond.selects (yN 776).cls (yN 776) (yN 776) ∈ gw := gw_in 1185 (by decide +kernel) (by decide +kernel)
theorem wc_777 : Cond.code (yN 777) (byt 777) (mLx 777) (rty 777) ∈ gw := gw_in 1193 (by decide +kernel) (by decide +kernel)
theorem wv_777 : Cond.instanceMethod (yN 777) ∈ gw := gw_in 1191 (by decide +kernel) (by decide +kernel)
theorem wz_777 : Cond.selects (yN 777).cls (yN 777) (yN 777) ∈ gw := gw_in 1192 (by decide +kernel) (by decide +kernel)
theorem wc_778 : Cond.code (yN 778) (byt 778) (mLx 778) (rty 778) ∈ gw := gw_in 1202 (by decide +kernel) (by decide +kernel)
theorem wv_778 : Cond.instanceMethod (yN 778) ∈ gw := gw_in 1201 (by decide +kernel) (by decide +kernel)
theorem wz_778 : Cond.selects (yN 778).cls (yN 778) (yN 778) ∈ gw := gw_in 52 (by decide +kernel) (by decide +kernel)
theorem wc_779 : Cond.code (yN 779) (byt 779) (mLx 779) (rty 779) ∈ gw := gw_in 1198 (by decide +kernel) (by decide +kernel)
theorem wv_779 : Cond.instanceMethod (yN 779) ∈ gw := gw_in 1196 (by decide +kernel) (by decide +kernel)
theorem wz_779 : Cond.selects (yN 779).cls (yN 779) (yN 779) ∈ gw := gw_in 1197 (by decide +kernel) (by decide +kernel)
theorem wc_780 : Cond.code (yN 780) (byt 780) (mLx 780) (rty 780) ∈ gw := gw_in 1206 (by decide +kernel) (by decide +kernel)
theorem wv_780 : Cond.instanceMethod (yN 780) ∈ gw := gw_in 1204 (by decide +kernel) (by decide +kernel)
theorem wz_780 : Cond.selects (yN 780).cls (yN 780) (yN 780) ∈ gw := gw_in 1205 (by decide +kernel) (by decide +kernel)
theorem wc_781 : Cond.code (yN 781) (byt 781) (mLx 781) (rty 781) ∈ gw := gw_in 1210 (by decide +kernel) (by decide +kernel)
theorem wv_781 : Cond.instanceMethod (yN 781) ∈ gw := gw_in 1208 (by decide +kernel) (by decide +kernel)
theorem wz_781 : Cond.selects (yN 781).cls (yN 781) (yN 781) ∈ gw := gw_in 1209 (by decide +kernel) (by decide +kernel)
theorem wc_782 : Cond.code (yN 782) (byt 782) (mLx 782) (rty 782) ∈ gw := gw_in 1214 (by decide +kernel) (by decide +kernel)
theorem wv_782 : Cond.instanceMethod (yN 782) ∈ gw := gw_in 1212 (by decide +kernel) (by decide +kernel)
theorem wz_782 : Cond.selects (yN 782).cls (yN 782) (yN 782) ∈ gw := gw_in 1213 (by decide +kernel) (by decide +kernel)
theorem wc_783 : Cond.code (yN 783) (byt 783) (mLx 783) (rty 783) ∈ gw := gw_in 1218 (by decide +kernel) (by decide +kernel)
theorem wv_783 : Cond.instanceMethod (yN 783) ∈ gw := gw_in 1216 (by decide +kernel) (by decide +kernel)
theorem wz_783 : Cond.selects (yN 783).cls (yN 783) (yN 783) ∈ gw := gw_in 1217 (by decide +kernel) (by decide +kernel)
theorem wc_784 : Cond.code (yN 784) (byt 784) (mLx 784) (rty 784) ∈ gw := gw_in 1222 (by decide +kernel) (by decide +kernel)
theorem wv_784 : Cond.instanceMethod (yN 784) ∈ gw := gw_in 1220 (by decide +kernel) (by decide +kernel)
theorem wz_784 : Cond.selects (yN 784).cls (yN 784) (yN 784) ∈ gw := gw_in 1221 (by decide +kernel) (by decide +kernel)
theorem wc_785 : Cond.code (yN 785) (byt 785) (mLx 785) (rty 785) ∈ gw := gw_in 1230 (by decide +kernel) (by decide +kernel)
theorem wv_785 : Cond.instanceMethod (yN 785) ∈ gw := gw_in 1229 (by decide +kernel) (by decide +kernel)
theorem wz_785 : Cond.selects (yN 785).cls (yN 785) (yN 785) ∈ gw := gw_in 53 (by decide +kernel) (by decide +kernel)
theorem wc_786 : Cond.code (yN 786) (byt 786) (mLx 786) (rty 786) ∈ gw := gw_in 1234 (by decide +kernel) (by decide +kernel)
theorem wv_786 : Cond.instanceMethod (yN 786) ∈ gw := gw_in 1233 (by decide +kernel) (by decide +kernel)
theorem wz_786 : Cond.selects (yN 786).cls (yN 786) (yN 786) ∈ gw := gw_in 54 (by decide +kernel) (by decide +kernel)
theorem wc_787 : Cond.code (yN 787) (byt 787) (mLx 787) (rty 787) ∈ gw := gw_in 1226 (by decide +kernel) (by decide +kernel)
theorem wv_787 : Cond.instanceMethod (yN 787) ∈ gw := gw_in 1224 (by decide +kernel) (by decide +kernel)
theorem wz_787 : Cond.selects (yN 787).cls (yN 787) (yN 787) ∈ gw := gw_in 1225 (by decide +kernel) (by decide +kernel)
theorem wc_788 : Cond.code (yN 788) (byt 788) (mLx 788) (rty 788) ∈ gw := gw_in 1238 (by decide +kernel) (by decide +kernel)
theorem wv_788 : Cond.instanceMethod (yN 788) ∈ gw := gw_in 1236 (by decide +kernel) (by decide +kernel)
theorem wz_788 : Cond.selects (yN 788).cls (yN 788) (yN 788) ∈ gw := gw_in 1237 (by decide +kernel) (by decide +kernel)
theorem wc_800 : Cond.code (yN 800) (byt 800) (mLx 800) (rty 800) ∈ gw := gw_in 654 (by decide +kernel) (by decide +kernel)
theorem wi_800 : Cond.initialized (csN (cxN 800)) ∈ gw := gw_in 67 (by decide +kernel) (by decide +kernel)
theorem wv_800 : Cond.instanceMethod (yN 800) ∈ gw := gw_in 652 (by decide +kernel) (by decide +kernel)
theorem wz_800 : Cond.selects (yN 800).cls (yN 800) (yN 800) ∈ gw := gw_in 653 (by decide +kernel) (by decide +kernel)
theorem wc_801 : Cond.code (yN 801) (byt 801) (mLx 801) (rty 801) ∈ gw := gw_in 664 (by decide +kernel) (by decide +kernel)
theorem wv_801 : Cond.instanceMethod (yN 801) ∈ gw := gw_in 662 (by decide +kernel) (by decide +kernel)
theorem wz_801 : Cond.selects (yN 801).cls (yN 801) (yN 801) ∈ gw := gw_in 663 (by decide +kernel) (by decide +kernel)
theorem wc_802 : Cond.code (yN 802) (byt 802) (mLx 802) (rty 802) ∈ gw := gw_in 658 (by decide +kernel) (by decide +kernel)
theorem wv_802 : Cond.instanceMethod (yN 802) ∈ gw := gw_in 656 (by decide +kernel) (by decide +kernel)
theorem wz_802 : Cond.selects (yN 802).cls (yN 802) (yN 802) ∈ gw := gw_in 657 (by decide +kernel) (by decide +kernel)
theorem wc_803 : Cond.code (yN 803) (byt 803) (mLx 803) (rty 803) ∈ gw := gw_in 668 (by decide +kernel) (by decide +kernel)
theorem wv_803 : Cond.instanceMethod (yN 803) ∈ gw := gw_in 666 (by decide +kernel) (by decide +kernel)
theorem wz_803 : Cond.selects (yN 803).cls (yN 803) (yN 803) ∈ gw := gw_in 667 (by decide +kernel) (by decide +kernel)
theorem wc_804 : Cond.code (yN 804) (byt 804) (mLx 804) (rty 804) ∈ gw := gw_in 674 (by decide +kernel) (by decide +kernel)
theorem ws_804 : Cond.static (yN 804) ∈ gw := gw_in 673 (by decide +kernel) (by decide +kernel)
theorem wc_900 : Cond.code (yN 900) (byt 900) (mLx 900) (rty 900) ∈ gw := gw_in 452 (by decide +kernel) (by decide +kernel)
theorem wi_900 : Cond.initialized (csN (cxN 900)) ∈ gw := gw_in 64 (by decide +kernel) (by decide +kernel)
theorem ws_900 : Cond.static (yN 900) ∈ gw := gw_in 451 (by decide +kernel) (by decide +kernel)
theorem wc_901 : Cond.code (yN 901) (byt 901) (mLx 901) (rty 901) ∈ gw := gw_in 508 (by decide +kernel) (by decide +kernel)
theorem ws_901 : Cond.static (yN 901) ∈ gw := gw_in 507 (by decide +kernel) (by decide +kernel)
theorem wc_910 : Cond.code (yN 910) (byt 910) (mLx 910) (rty 910) ∈ gw := gw_in 464 (by decide +kernel) (by decide +kernel)
theorem wi_910 : Cond.initialized (csN (cxN 910)) ∈ gw := gw_in 65 (by decide +kernel) (by decide +kernel)
theorem ws_910 : Cond.static (yN 910) ∈ gw := gw_in 463 (by decide +kernel) (by decide +kernel)
theorem wc_911 : Cond.code (yN 911) (byt 911) (mLx 911) (rty 911) ∈ gw := gw_in 457 (by decide +kernel) (by decide +kernel)
theorem ws_911 : Cond.static (yN 911) ∈ gw := gw_in 456 (by decide +kernel) (by decide +kernel)
theorem wc_920 : Cond.code (yN 920) (byt 920) (mLx 920) (rty 920) ∈ gw := gw_in 671 (by decide +kernel) (by decide +kernel)
theorem wi_920 : Cond.initialized (csN (cxN 920)) ∈ gw := gw_in 68 (by decide +kernel) (by decide +kernel)
theorem ws_920 : Cond.static (yN 920) ∈ gw := gw_in 670 (by decide +kernel) (by decide +kernel)
theorem wc_930 : Cond.code (yN 930) (byt 930) (mLx 930) (rty 930) ∈ gw := gw_in 739 (by decide +kernel) (by decide +kernel)
theorem wi_930 : Cond.initialized (csN (cxN 930)) ∈ gw := gw_in 71 (by decide +kernel) (by decide +kernel)
theorem ws_930 : Cond.static (yN 930) ∈ gw := gw_in 738 (by decide +kernel) (by decide +kernel)
theorem wc_940 : Cond.code (yN 940) (byt 940) (mLx 940) (rty 940) ∈ gw := gw_in 679 (by decide +kernel) (by decide +kernel)
theorem wi_940 : Cond.initialized (csN (cxN 940)) ∈ gw := gw_in 69 (by decide +kernel) (by decide +kernel)
theorem ws_940 : Cond.static (yN 940) ∈ gw := gw_in 678 (by decide +kernel) (by decide +kernel)
theorem wcode_0 : ∀ m ∈ ([0, 1, 2, 3, 4, 5, 6, 7, 8, 9, 10, 100, 101, 102, 103, 200, 201, 202, 203, 204, 300, 301, 302, 303, 304, 305, 306, 307, 308, 309, 310, 311, 312, 313, 314, 400, 401, 402, 403, 500] : List Nat), Cond.code (yN m) (byt m) (mLx m) (rty m) ∈ gw := by
  intro m h
  simp only [List.mem_cons, List.not_mem_nil, or_false] at h
  rcases h with rfl | rfl | rfl | rfl | rfl | rfl | rfl | rfl | rfl | rfl | rfl | rfl | rfl | rfl | rfl | rfl | rfl | rfl | rfl | rfl | rfl | rfl | rfl | rfl | rfl | rfl | rfl | rfl | rfl | rfl | rfl | rfl | rfl | rfl | rfl | rfl | rfl | rfl | rfl | rfl
  · exact wc_0
  · exact wc_1
  · exact wc_2
  · exact wc_3
  · exact wc_4
  · exact wc_5
  · exact wc_6
  · exact wc_7
  · exact wc_8
  · exact wc_9
  · exact wc_10
  · exact wc_100
  · exact wc_101
  · exact wc_102
  · exact wc_103
  · exact wc_200
  · exact wc_201
  · exact wc_202
  · exact wc_203
  · exact wc_204
  · exact wc_300
  · exact wc_301
  · exact wc_302
  · exact wc_303
  · exact wc_304
  · exact wc_305
  · exact wc_306
  · exact wc_307
  · exact wc_308
  · exact wc_309
  · exact wc_310
  · exact wc_311
  · exact wc_312
  · exact wc_313
  · exact wc_314
  · exact wc_400
  · exact wc_401
  · exact wc_402
  · exact wc_403
  · exact wc_500
theorem wcode_1 : ∀ m ∈ ([501, 502, 600, 601, 602, 603, 604, 605, 606, 607, 608, 609, 610, 611, 612, 613, 614, 615, 616, 617, 618, 619, 620, 621, 622, 623, 624, 625, 626, 627, 628, 629, 630, 631, 632, 633, 634, 635, 636, 637] : List Nat), Cond.code (yN m) (byt m) (mLx m) (rty m) ∈ gw := by
  intro m h
  simp only [List.mem_cons, List.not_mem_nil, or_false] at h
  rcases h with rfl | rfl | rfl | rfl | rfl | rfl | rfl | rfl | rfl | rfl | rfl | rfl | rfl | rfl | rfl | rfl | rfl | rfl | rfl | rfl | rfl | rfl | rfl | rfl | rfl | rfl | rfl | rfl | rfl | rfl | rfl | rfl | rfl | rfl | rfl | rfl | rfl | rfl | rfl | rfl
  · exact wc_501
  · exact wc_502
  · exact wc_600
  · exact wc_601
  · exact wc_602
  · exact wc_603
  · exact wc_604
  · exact wc_605
  · exact wc_606
  · exact wc_607
  · exact wc_608
  · exact wc_609
  · exact wc_610
  · exact wc_611
  · exact wc_612
  · exact wc_613
  · exact wc_614
  · exact wc_615
  · exact wc_616
  · exact wc_617
  · exact wc_618
  · exact wc_619
  · exact wc_620
  · exact wc_621
  · exact wc_622
  · exact wc_623
  · exact wc_624
  · exact wc_625
  · exact wc_626
  · exact wc_627
  · exact wc_628
  · exact wc_629
  · exact wc_630
  · exact wc_631
  · exact wc_632
  · exact wc_633
  · exact wc_634
  · exact wc_635
  · exact wc_636
  · exact wc_637
theorem wcode_2 : ∀ m ∈ ([638, 639, 640, 641, 642, 643, 644, 645, 646, 647, 648, 649, 650, 651, 652, 700, 701, 702, 703, 704, 705, 706, 707, 708, 709, 710, 711, 712, 713, 714, 715, 716, 717, 718, 719, 720, 721, 722, 723, 724] : List Nat), Cond.code (yN m) (byt m) (mLx m) (rty m) ∈ gw := by
  intro m h
  simp only [List.mem_cons, List.not_mem_nil, or_false] at h
  rcases h with rfl | rfl | rfl | rfl | rfl | rfl | rfl | rfl | rfl | rfl | rfl | rfl | rfl | rfl | rfl | rfl | rfl | rfl | rfl | rfl | rfl | rfl | rfl | rfl | rfl | rfl | rfl | rfl | rfl | rfl | rfl | rfl | rfl | rfl | rfl | rfl | rfl | rfl | rfl | rfl
  · exact wc_638
  · exact wc_639
  · exact wc_640
  · exact wc_641
  · exact wc_642
  · exact wc_643
  · exact wc_644
  · exact wc_645
  · exact wc_646
  · exact wc_647
  · exact wc_648
  · exact wc_649
  · exact wc_650
  · exact wc_651
  · exact wc_652
  · exact wc_700
  · exact wc_701
  · exact wc_702
  · exact wc_703
  · exact wc_704
  · exact wc_705
  · exact wc_706
  · exact wc_707
  · exact wc_708
  · exact wc_709
  · exact wc_710
  · exact wc_711
  · exact wc_712
  · exact wc_713
  · exact wc_714
  · exact wc_715
  · exact wc_716
  · exact wc_717
  · exact wc_718
  · exact wc_719
  · exact wc_720
  · exact wc_721
  · exact wc_722
  · exact wc_723
  · exact wc_724
theorem wcode_3 : ∀ m ∈ ([725, 726, 727, 728, 729, 730, 731, 732, 733, 734, 735, 736, 737, 738, 739, 740, 741, 742, 743, 744, 745, 746, 747, 748, 749, 750, 751, 752, 753, 754, 755, 756, 757, 758, 759, 760, 761, 762, 763, 764] : List Nat), Cond.code (yN m) (byt m) (mLx m) (rty m) ∈ gw := by
  intro m h
  simp only [List.mem_cons, List.not_mem_nil, or_false] at h
  rcases h with rfl | rfl | rfl | rfl | rfl | rfl | rfl | rfl | rfl | rfl | rfl | rfl | rfl | rfl | rfl | rfl | rfl | rfl | rfl | rfl | rfl | rfl | rfl | rfl | rfl | rfl | rfl | rfl | rfl | rfl | rfl | rfl | rfl | rfl | rfl | rfl | rfl | rfl | rfl | rfl
  · exact wc_725
  · exact wc_726
  · exact wc_727
  · exact wc_728
  · exact wc_729
  · exact wc_730
  · exact wc_731
  · exact wc_732
  · exact wc_733
  · exact wc_734
  · exact wc_735
  · exact wc_736
  · exact wc_737
  · exact wc_738
  · exact wc_739
  · exact wc_740
  · exact wc_741
  · exact wc_742
  · exact wc_743
  · exact wc_744
  · exact wc_745
  · exact wc_746
  · exact wc_747
  · exact wc_748
  · exact wc_749
  · exact wc_750
  · exact wc_751
  · exact wc_752
  · exact wc_753
  · exact wc_754
  · exact wc_755
  · exact wc_756
  · exact wc_757
  · exact wc_758
  · exact wc_759
  · exact wc_760
  · exact wc_761
  · exact wc_762
  · exact wc_763
  · exact wc_764
theorem wcode_4 : ∀ m ∈ ([765, 766, 767, 768, 769, 770, 771, 772, 773, 774, 775, 776, 777, 778, 779, 780, 781, 782, 783, 784, 785, 786, 787, 788, 800, 801, 802, 803, 804, 900, 901, 910, 911, 920, 930, 940] : List Nat), Cond.code (yN m) (byt m) (mLx m) (rty m) ∈ gw := by
  intro m h
  simp only [List.mem_cons, List.not_mem_nil, or_false] at h
  rcases h with rfl | rfl | rfl | rfl | rfl | rfl | rfl | rfl | rfl | rfl | rfl | rfl | rfl | rfl | rfl | rfl | rfl | rfl | rfl | rfl | rfl | rfl | rfl | rfl | rfl | rfl | rfl | rfl | rfl | rfl | rfl | rfl | rfl | rfl | rfl | rfl
  · exact wc_765
  · exact wc_766
  · exact wc_767
  · exact wc_768
  · exact wc_769
  · exact wc_770
  · exact wc_771
  · exact wc_772
  · exact wc_773
  · exact wc_774
  · exact wc_775
  · exact wc_776
  · exact wc_777
  · exact wc_778
  · exact wc_779
  · exact wc_780
  · exact wc_781
  · exact wc_782
  · exact wc_783
  · exact wc_784
  · exact wc_785
  · exact wc_786
  · exact wc_787
  · exact wc_788
  · exact wc_800
  · exact wc_801
  · exact wc_802
  · exact wc_803
  · exact wc_804
  · exact wc_900
  · exact wc_901
  · exact wc_910
  · exact wc_911
  · exact wc_920
  · exact wc_930
  · exact wc_940
def mAll : List Nat := [0, 1, 2, 3, 4, 5, 6, 7, 8, 9, 10, 100, 101, 102, 103, 200, 201, 202, 203, 204, 300, 301, 302, 303, 304, 305, 306, 307, 308, 309, 310, 311, 312, 313, 314, 400, 401, 402, 403, 500] ++ [501, 502, 600, 601, 602, 603, 604, 605, 606, 607, 608, 609, 610, 611, 612, 613, 614, 615, 616, 617, 618, 619, 620, 621, 622, 623, 624, 625, 626, 627, 628, 629, 630, 631, 632, 633, 634, 635, 636, 637] ++ [638, 639, 640, 641, 642, 643, 644, 645, 646, 647, 648, 649, 650, 651, 652, 700, 701, 702, 703, 704, 705, 706, 707, 708, 709, 710, 711, 712, 713, 714, 715, 716, 717, 718, 719, 720, 721, 722, 723, 724] ++ [725, 726, 727, 728, 729, 730, 731, 732, 733, 734, 735, 736, 737, 738, 739, 740, 741, 742, 743, 744, 745, 746, 747, 748, 749, 750, 751, 752, 753, 754, 755, 756, 757, 758, 759, 760, 761, 762, 763, 764] ++ [765, 766, 767, 768, 769, 770, 771, 772, 773, 774, 775, 776, 777, 778, 779, 780, 781, 782, 783, 784, 785, 786, 787, 788, 800, 801, 802, 803, 804, 900, 901, 910, 911, 920, 930, 940]
theorem wini_0 : ∀ m ∈ ([0, 1, 2, 3, 4, 5, 6, 7, 8, 9, 10, 100, 101, 102, 103, 200, 201, 202, 203, 204, 300, 301, 302, 303, 304, 305, 306, 307, 308, 309, 310, 311, 312, 313, 314, 400, 401, 402, 403, 500] : List Nat), Cond.initialized (yN m).cls ∈ gw := by
  intro m h
  simp only [List.mem_cons, List.not_mem_nil, or_false] at h
  rcases h with rfl | rfl | rfl | rfl | rfl | rfl | rfl | rfl | rfl | rfl | rfl | rfl | rfl | rfl | rfl | rfl | rfl | rfl | rfl | rfl | rfl | rfl | rfl | rfl | rfl | rfl | rfl | rfl | rfl | rfl | rfl | rfl | rfl | rfl | rfl | rfl | rfl | rfl | rfl | rfl
  · exact wi_0
  · exact wi_0
  · exact wi_0
  · exact wi_0
  · exact wi_0
  · exact wi_0
  · exact wi_0
  · exact wi_0
  · exact wi_0
  · exact wi_0
  · exact wi_0
  · exact wi_100
  · exact wi_100
  · exact wi_100
  · exact wi_100
  · exact wi_200
  · exact wi_200
  · exact wi_200
  · exact wi_200
  · exact wi_200
  · exact wi_300
  · exact wi_300
  · exact wi_300
  · exact wi_300
  · exact wi_300
  · exact wi_300
  · exact wi_300
  · exact wi_300
  · exact wi_300
  · exact wi_300
  · exact wi_300
  · exact wi_300
  · exact wi_300
  · exact wi_300
  · exact wi_300
  · exact wi_400
  · exact wi_400
  · exact wi_400
  · exact wi_400
  · exact wi_500
theorem wini_1 : ∀ m ∈ ([501, 502, 600, 601, 602, 603, 604, 605, 606, 607, 608, 609, 610, 611, 612, 613, 614, 615, 616, 617, 618, 619, 620, 621, 622, 623, 624, 625, 626, 627, 628, 629, 630, 631, 632, 633, 634, 635, 636, 637] : List Nat), Cond.initialized (yN m).cls ∈ gw := by
  intro m h
  simp only [List.mem_cons, List.not_mem_nil, or_false] at h
  rcases h with rfl | rfl | rfl | rfl | rfl | rfl | rfl | rfl | rfl | rfl | rfl | rfl | rfl | rfl | rfl | rfl | rfl | rfl | rfl | rfl | rfl | rfl | rfl | rfl | rfl | rfl | rfl | rfl | rfl | rfl | rfl | rfl | rfl | rfl | rfl | rfl | rfl | rfl | rfl | rfl
  · exact wi_500
  · exact wi_500
  · exact wi_600
  · exact wi_600
  · exact wi_600
  · exact wi_600
  · exact wi_600
  · exact wi_600
  · exact wi_600
  · exact wi_600
  · exact wi_600
  · exact wi_600
  · exact wi_600
  · exact wi_600
  · exact wi_600
  · exact wi_600
  · exact wi_600
  · exact wi_600
  · exact wi_600
  · exact wi_600
  · exact wi_600
  · exact wi_600
  · exact wi_600
  · exact wi_600
  · exact wi_600
  · exact wi_600
  · exact wi_600
  · exact wi_600
  · exact wi_600
  · exact wi_600
  · exact wi_600
  · exact wi_600
  · exact wi_600
  · exact wi_600
  · exact wi_600
  · exact wi_600
  · exact wi_600
  · exact wi_600
  · exact wi_600
  · exact wi_600
theorem wini_2 : ∀ m ∈ ([638, 639, 640, 641, 642, 643, 644, 645, 646, 647, 648, 649, 650, 651, 652, 700, 701, 702, 703, 704, 705, 706, 707, 708, 709, 710, 711, 712, 713, 714, 715, 716, 717, 718, 719, 720, 721, 722, 723, 724] : List Nat), Cond.initialized (yN m).cls ∈ gw := by
  intro m h
  simp only [List.mem_cons, List.not_mem_nil, or_false] at h
  rcases h with rfl | rfl | rfl | rfl | rfl | rfl | rfl | rfl | rfl | rfl | rfl | rfl | rfl | rfl | rfl | rfl | rfl | rfl | rfl | rfl | rfl | rfl | rfl | rfl | rfl | rfl | rfl | rfl | rfl | rfl | rfl | rfl | rfl | rfl | rfl | rfl | rfl | rfl | rfl | rfl
  · exact wi_600
  · exact wi_600
  · exact wi_600
  · exact wi_600
  · exact wi_600
  · exact wi_600
  · exact wi_600
  · exact wi_600
  · exact wi_600
  · exact wi_600
  · exact wi_600
  · exact wi_600
  · exact wi_600
  · exact wi_600
  · exact wi_600
  · exact wi_700
  · exact wi_700
  · exact wi_700
  · exact wi_700
  · exact wi_700
  · exact wi_700
  · exact wi_700
  · exact wi_700
  · exact wi_700
  · exact wi_700
  · exact wi_700
  · exact wi_700
  · exact wi_700
  · exact wi_700
  · exact wi_700
  · exact wi_700
  · exact wi_700
  · exact wi_700
  · exact wi_700
  · exact wi_700
  · exact wi_700
  · exact wi_700
  · exact wi_700
  · exact wi_700
  · exact wi_700
theorem wini_3 : ∀ m ∈ ([725, 726, 727, 728, 729, 730, 731, 732, 733, 734, 735, 736, 737, 738, 739, 740, 741, 742, 743, 744, 745, 746, 747, 748, 749, 750, 751, 752, 753, 754, 755, 756, 757, 758, 759, 760, 761, 762, 763, 764] : List Nat), Cond.initialized (yN m).cls ∈ gw := by
  intro m h
  simp only [List.mem_cons, List.not_mem_nil, or_false] at h
  rcases h with rfl | rfl | rfl | rfl | rfl | rfl | rfl | rfl | rfl | rfl | rfl | rfl | rfl | rfl | rfl | rfl | rfl | rfl | rfl | rfl | rfl | rfl | rfl | rfl | rfl | rfl | rfl | rfl | rfl | rfl | rfl | rfl | rfl | rfl | rfl | rfl | rfl | rfl | rfl | rfl
  · exact wi_700
  · exact wi_700
  · exact wi_700
  · exact wi_700
  · exact wi_700
  · exact wi_700
  · exact wi_700
  · exact wi_700
  · exact wi_700
  · exact wi_700
  · exact wi_700
  · exact wi_700
  · exact wi_700
  · exact wi_700
  · exact wi_700
  · exact wi_700
  · exact wi_700
  · exact wi_700
  · exact wi_700
  · exact wi_700
  · exact wi_700
  · exact wi_700
  · exact wi_700
  · exact wi_700
  · exact wi_700
  · exact wi_700
  · exact wi_700
  · exact wi_700
  · exact wi_700
  · exact wi_700
  · exact wi_700
  · exact wi_700
  · exact wi_700
  · exact wi_700
  · exact wi_700
  · exact wi_700
  · exact wi_700
  · exact wi_700
  · exact wi_700
  · exact wi_700
theorem wini_4 : ∀ m ∈ ([765, 766, 767, 768, 769, 770, 771, 772, 773, 774, 775, 776, 777, 778, 779, 780, 781, 782, 783, 784, 785, 786, 787, 788, 800, 801, 802, 803, 804, 900, 901, 910, 911, 920, 930, 940] : List Nat), Cond.initialized (yN m).cls ∈ gw := by
  intro m h
  simp only [List.mem_cons, List.not_mem_nil, or_false] at h
  rcases h with rfl | rfl | rfl | rfl | rfl | rfl | rfl | rfl | rfl | rfl | rfl | rfl | rfl | rfl | rfl | rfl | rfl | rfl | rfl | rfl | rfl | rfl | rfl | rfl | rfl | rfl | rfl | rfl | rfl | rfl | rfl | rfl | rfl | rfl | rfl | rfl
  · exact wi_700
  · exact wi_700
  · exact wi_700
  · exact wi_700
  · exact wi_700
  · exact wi_700
  · exact wi_700
  · exact wi_700
  · exact wi_700
  · exact wi_700
  · exact wi_700
  · exact wi_700
  · exact wi_700
  · exact wi_700
  · exact wi_700
  · exact wi_700
  · exact wi_700
  · exact wi_700
  · exact wi_700
  · exact wi_700
  · exact wi_700
  · exact wi_700
  · exact wi_700
  · exact wi_700
  · exact wi_800
  · exact wi_800
  · exact wi_800
  · exact wi_800
  · exact wi_800
  · exact wi_900
  · exact wi_900
  · exact wi_910
  · exact wi_910
  · exact wi_920
  · exact wi_930
  · exact wi_940
theorem wstat_0 : ∀ m ∈ ([9, 10, 200, 204, 646, 647, 648, 649, 650, 651, 652, 701, 702, 703, 706, 711, 713, 725, 775, 804, 900, 901, 910, 911, 920, 930, 940] : List Nat), Cond.static (yN m) ∈ gw := by
  intro m h
  simp only [List.mem_cons, List.not_mem_nil, or_false] at h
  rcases h with rfl | rfl | rfl | rfl | rfl | rfl | rfl | rfl | rfl | rfl | rfl | rfl | rfl | rfl | rfl | rfl | rfl | rfl | rfl | rfl | rfl | rfl | rfl | rfl | rfl | rfl | rfl
  · exact ws_9
  · exact ws_10
  · exact ws_200
  · exact ws_204
  · exact ws_646
  · exact ws_647
  · exact ws_648
  · exact ws_649
  · exact ws_650
  · exact ws_651
  · exact ws_652
  · exact ws_701
  · exact ws_702
  · exact ws_703
  · exact ws_706
  · exact ws_711
  · exact ws_713
  · exact ws_725
  · exact ws_775
  · exact ws_804
  · exact ws_900
  · exact ws_901
  · exact ws_910
  · exact ws_911
  · exact ws_920
  · exact ws_930
  · exact ws_940
def mSta : List Nat := [9, 10, 200, 204, 646, 647, 648, 649, 650, 651, 652, 701, 702, 703, 706, 711, 713, 725, 775, 804, 900, 901, 910, 911, 920, 930, 940]
theorem wvirt_0 : ∀ m ∈ ([0, 1, 2, 3, 4, 5, 6, 7, 8, 100, 101, 102, 103, 201, 202, 203, 300, 301, 302, 303, 304, 305, 306, 307, 308, 309, 310, 311, 312, 313, 314, 400, 401, 402, 403, 500, 501, 502, 600, 601] : List Nat), Cond.instanceMethod (yN m) ∈ gw ∧ Cond.selects (yN m).cls (yN m) (yN m) ∈ gw := by
  intro m h
  simp only [List.mem_cons, List.not_mem_nil, or_false] at h
  rcases h with rfl | rfl | rfl | rfl | rfl | rfl | rfl | rfl | rfl | rfl | rfl | rfl | rfl | rfl | rfl | rfl | rfl | rfl | rfl | rfl | rfl | rfl | rfl | rfl | rfl | rfl | rfl | rfl | rfl | rfl | rfl | rfl | rfl | rfl | rfl | rfl | rfl | rfl | rfl | rfl
  · exact ⟨wv_0, wz_0⟩
  · exact ⟨wv_1, wz_1⟩
  · exact ⟨wv_2, wz_2⟩
  · exact ⟨wv_3, wz_3⟩
  · exact ⟨wv_4, wz_4⟩
  · exact ⟨wv_5, wz_5⟩
  · exact ⟨wv_6, wz_6⟩
  · exact ⟨wv_7, wz_7⟩
  · exact ⟨wv_8, wz_8⟩
  · exact ⟨wv_100, wz_100⟩
  · exact ⟨wv_101, wz_101⟩
  · exact ⟨wv_102, wz_102⟩
  · exact ⟨wv_103, wz_103⟩
  · exact ⟨wv_201, wz_201⟩
  · exact ⟨wv_202, wz_202⟩
  · exact ⟨wv_203, wz_203⟩
  · exact ⟨wv_300, wz_300⟩
  · exact ⟨wv_301, wz_301⟩
  · exact ⟨wv_302, wz_302⟩
  · exact ⟨wv_303, wz_303⟩
  · exact ⟨wv_304, wz_304⟩
  · exact ⟨wv_305, wz_305⟩
  · exact ⟨wv_306, wz_306⟩
  · exact ⟨wv_307, wz_307⟩
  · exact ⟨wv_308, wz_308⟩
  · exact ⟨wv_309, wz_309⟩
  · exact ⟨wv_310, wz_310⟩
  · exact ⟨wv_311, wz_311⟩
  · exact ⟨wv_312, wz_312⟩
  · exact ⟨wv_313, wz_313⟩
  · exact ⟨wv_314, wz_314⟩
  · exact ⟨wv_400, wz_400⟩
  · exact ⟨wv_401, wz_401⟩
  · exact ⟨wv_402, wz_402⟩
  · exact ⟨wv_403, wz_403⟩
  · exact ⟨wv_500, wz_500⟩
  · exact ⟨wv_501, wz_501⟩
  · exact ⟨wv_502, wz_502⟩
  · exact ⟨wv_600, wz_600⟩
  · exact ⟨wv_601, wz_601⟩
theorem wvirt_1 : ∀ m ∈ ([602, 603, 604, 605, 606, 607, 608, 609, 610, 611, 612, 613, 614, 615, 616, 617, 618, 619, 620, 621, 622, 623, 624, 625, 626, 627, 628, 629, 630, 631, 632, 633, 634, 635, 636, 637, 638, 639, 640, 641] : List Nat), Cond.instanceMethod (yN m) ∈ gw ∧ Cond.selects (yN m).cls (yN m) (yN m) ∈ gw := by
  intro m h
  simp only [List.mem_cons, List.not_mem_nil, or_false] at h
  rcases h with rfl | rfl | rfl | rfl | rfl | rfl | rfl | rfl | rfl | rfl | rfl | rfl | rfl | rfl | rfl | rfl | rfl | rfl | rfl | rfl | rfl | rfl | rfl | rfl | rfl | rfl | rfl | rfl | rfl | rfl | rfl | rfl | rfl | rfl | rfl | rfl | rfl | rfl | rfl | rfl
  · exact ⟨wv_602, wz_602⟩
  · exact ⟨wv_603, wz_603⟩
  · exact ⟨wv_604, wz_604⟩
  · exact ⟨wv_605, wz_605⟩
  · exact ⟨wv_606, wz_606⟩
  · exact ⟨wv_607, wz_607⟩
  · exact ⟨wv_608, wz_608⟩
  · exact ⟨wv_609, wz_609⟩
  · exact ⟨wv_610, wz_610⟩
  · exact ⟨wv_611, wz_611⟩
  · exact ⟨wv_612, wz_612⟩
  · exact ⟨wv_613, wz_613⟩
  · exact ⟨wv_614, wz_614⟩
  · exact ⟨wv_615, wz_615⟩
  · exact ⟨wv_616, wz_616⟩
  · exact ⟨wv_617, wz_617⟩
  · exact ⟨wv_618, wz_618⟩
  · exact ⟨wv_619, wz_619⟩
  · exact ⟨wv_620, wz_620⟩
  · exact ⟨wv_621, wz_621⟩
  · exact ⟨wv_622, wz_622⟩
  · exact ⟨wv_623, wz_623⟩
  · exact ⟨wv_624, wz_624⟩
  · exact ⟨wv_625, wz_625⟩
  · exact ⟨wv_626, wz_626⟩
  · exact ⟨wv_627, wz_627⟩
  · exact ⟨wv_628, wz_628⟩
  · exact ⟨wv_629, wz_629⟩
  · exact ⟨wv_630, wz_630⟩
  · exact ⟨wv_631, wz_631⟩
  · exact ⟨wv_632, wz_632⟩
  · exact ⟨wv_633, wz_633⟩
  · exact ⟨wv_634, wz_634⟩
  · exact ⟨wv_635, wz_635⟩
  · exact ⟨wv_636, wz_636⟩
  · exact ⟨wv_637, wz_637⟩
  · exact ⟨wv_638, wz_638⟩
  · exact ⟨wv_639, wz_639⟩
  · exact ⟨wv_640, wz_640⟩
  · exact ⟨wv_641, wz_641⟩
theorem wvirt_2 : ∀ m ∈ ([642, 643, 644, 645, 700, 704, 705, 707, 708, 709, 710, 712, 714, 715, 716, 717, 718, 719, 720, 721, 722, 723, 724, 726, 727, 728, 729, 730, 731, 732, 733, 734, 735, 736, 737, 738, 739, 740, 741, 742] : List Nat), Cond.instanceMethod (yN m) ∈ gw ∧ Cond.selects (yN m).cls (yN m) (yN m) ∈ gw := by
  intro m h
  simp only [List.mem_cons, List.not_mem_nil, or_false] at h
  rcases h with rfl | rfl | rfl | rfl | rfl | rfl | rfl | rfl | rfl | rfl | rfl | rfl | rfl | rfl | rfl | rfl | rfl | rfl | rfl | rfl | rfl | rfl | rfl | rfl | rfl | rfl | rfl | rfl | rfl | rfl | rfl | rfl | rfl | rfl | rfl | rfl | rfl | rfl | rfl | rfl
  · exact ⟨wv_642, wz_642⟩
  · exact ⟨wv_643, wz_643⟩
  · exact ⟨wv_644, wz_644⟩
  · exact ⟨wv_645, wz_645⟩
  · exact ⟨wv_700, wz_700⟩
  · exact ⟨wv_704, wz_704⟩
  · exact ⟨wv_705, wz_705⟩
  · exact ⟨wv_707, wz_707⟩
  · exact ⟨wv_708, wz_708⟩
  · exact ⟨wv_709, wz_709⟩
  · exact ⟨wv_710, wz_710⟩
  · exact ⟨wv_712, wz_712⟩
  · exact ⟨wv_714, wz_714⟩
  · exact ⟨wv_715, wz_715⟩
  · exact ⟨wv_716, wz_716⟩
  · exact ⟨wv_717, wz_717⟩
  · exact ⟨wv_718, wz_718⟩
  · exact ⟨wv_719, wz_719⟩
  · exact ⟨wv_720, wz_720⟩
  · exact ⟨wv_721, wz_721⟩
  · exact ⟨wv_722, wz_722⟩
  · exact ⟨wv_723, wz_723⟩
  · exact ⟨wv_724, wz_724⟩
  · exact ⟨wv_726, wz_726⟩
  · exact ⟨wv_727, wz_727⟩
  · exact ⟨wv_728, wz_728⟩
  · exact ⟨wv_729, wz_729⟩
  · exact ⟨wv_730, wz_730⟩
  · exact ⟨wv_731, wz_731⟩
  · exact ⟨wv_732, wz_732⟩
  · exact ⟨wv_733, wz_733⟩
  · exact ⟨wv_734, wz_734⟩
  · exact ⟨wv_735, wz_735⟩
  · exact ⟨wv_736, wz_736⟩
  · exact ⟨wv_737, wz_737⟩
  · exact ⟨wv_738, wz_738⟩
  · exact ⟨wv_739, wz_739⟩
  · exact ⟨wv_740, wz_740⟩
  · exact ⟨wv_741, wz_741⟩
  · exact ⟨wv_742, wz_742⟩
theorem wvirt_3 : ∀ m ∈ ([743, 744, 745, 746, 747, 748, 749, 750, 751, 752, 753, 754, 755, 756, 757, 758, 759, 760, 761, 762, 763, 764, 765, 766, 767, 768, 769, 770, 771, 772, 773, 774, 776, 777, 778, 779, 780, 781, 782, 783] : List Nat), Cond.instanceMethod (yN m) ∈ gw ∧ Cond.selects (yN m).cls (yN m) (yN m) ∈ gw := by
  intro m h
  simp only [List.mem_cons, List.not_mem_nil, or_false] at h
  rcases h with rfl | rfl | rfl | rfl | rfl | rfl | rfl | rfl | rfl | rfl | rfl | rfl | rfl | rfl | rfl | rfl | rfl | rfl | rfl | rfl | rfl | rfl | rfl | rfl | rfl | rfl | rfl | rfl | rfl | rfl | rfl | rfl | rfl | rfl | rfl | rfl | rfl | rfl | rfl | rfl
  · exact ⟨wv_743, wz_743⟩
  · exact ⟨wv_744, wz_744⟩
  · exact ⟨wv_745, wz_745⟩
  · exact ⟨wv_746, wz_746⟩
  · exact ⟨wv_747, wz_747⟩
  · exact ⟨wv_748, wz_748⟩
  · exact ⟨wv_749, wz_749⟩
  · exact ⟨wv_750, wz_750⟩
  · exact ⟨wv_751, wz_751⟩
  · exact ⟨wv_752, wz_752⟩
  · exact ⟨wv_753, wz_753⟩
  · exact ⟨wv_754, wz_754⟩
  · exact ⟨wv_755, wz_755⟩
  · exact ⟨wv_756, wz_756⟩
  · exact ⟨wv_757, wz_757⟩
  · exact ⟨wv_758, wz_758⟩
  · exact ⟨wv_759, wz_759⟩
  · exact ⟨wv_760, wz_760⟩
  · exact ⟨wv_761, wz_761⟩
  · exact ⟨wv_762, wz_762⟩
  · exact ⟨wv_763, wz_763⟩
  · exact ⟨wv_764, wz_764⟩
  · exact ⟨wv_765, wz_765⟩
  · exact ⟨wv_766, wz_766⟩
  · exact ⟨wv_767, wz_767⟩
  · exact ⟨wv_768, wz_768⟩
  · exact ⟨wv_769, wz_769⟩
  · exact ⟨wv_770, wz_770⟩
  · exact ⟨wv_771, wz_771⟩
  · exact ⟨wv_772, wz_772⟩
  · exact ⟨wv_773, wz_773⟩
  · exact ⟨wv_774, wz_774⟩
  · exact ⟨wv_776, wz_776⟩
  · exact ⟨wv_777, wz_777⟩
  · exact ⟨wv_778, wz_778⟩
  · exact ⟨wv_779, wz_779⟩
  · exact ⟨wv_780, wz_780⟩
  · exact ⟨wv_781, wz_781⟩
  · exact ⟨wv_782, wz_782⟩
  · exact ⟨wv_783, wz_783⟩
theorem wvirt_4 : ∀ m ∈ ([784, 785, 786, 787, 788, 800, 801, 802, 803] : List Nat), Cond.instanceMethod (yN m) ∈ gw ∧ Cond.selects (yN m).cls (yN m) (yN m) ∈ gw := by
  intro m h
  simp only [List.mem_cons, List.not_mem_nil, or_false] at h
  rcases h with rfl | rfl | rfl | rfl | rfl | rfl | rfl | rfl | rfl
  · exact ⟨wv_784, wz_784⟩
  · exact ⟨wv_785, wz_785⟩
  · exact ⟨wv_786, wz_786⟩
  · exact ⟨wv_787, wz_787⟩
  · exact ⟨wv_788, wz_788⟩
  · exact ⟨wv_800, wz_800⟩
  · exact ⟨wv_801, wz_801⟩
  · exact ⟨wv_802, wz_802⟩
  · exact ⟨wv_803, wz_803⟩
def mVir : List Nat := [0, 1, 2, 3, 4, 5, 6, 7, 8, 100, 101, 102, 103, 201, 202, 203, 300, 301, 302, 303, 304, 305, 306, 307, 308, 309, 310, 311, 312, 313, 314, 400, 401, 402, 403, 500, 501, 502, 600, 601] ++ [602, 603, 604, 605, 606, 607, 608, 609, 610, 611, 612, 613, 614, 615, 616, 617, 618, 619, 620, 621, 622, 623, 624, 625, 626, 627, 628, 629, 630, 631, 632, 633, 634, 635, 636, 637, 638, 639, 640, 641] ++ [642, 643, 644, 645, 700, 704, 705, 707, 708, 709, 710, 712, 714, 715, 716, 717, 718, 719, 720, 721, 722, 723, 724, 726, 727, 728, 729, 730, 731, 732, 733, 734, 735, 736, 737, 738, 739, 740, 741, 742] ++ [743, 744, 745, 746, 747, 748, 749, 750, 751, 752, 753, 754, 755, 756, 757, 758, 759, 760, 761, 762, 763, 764, 765, 766, 767, 768, 769, 770, 771, 772, 773, 774, 776, 777, 778, 779, 780, 781, 782, 783] ++ [784, 785, 786, 787, 788, 800, 801, 802, 803]
theorem w_code : ∀ m ∈ mAll, Cond.code (yN m) (byt m) (mLx m) (rty m) ∈ gw := (List.forall_mem_append.mpr ⟨(List.forall_mem_append.mpr ⟨(List.forall_mem_append.mpr ⟨(List.forall_mem_append.mpr ⟨wcode_0, wcode_1⟩), wcode_2⟩), wcode_3⟩), wcode_4⟩)
theorem w_ini : ∀ m ∈ mAll, Cond.initialized (yN m).cls ∈ gw := (List.forall_mem_append.mpr ⟨(List.forall_mem_append.mpr ⟨(List.forall_mem_append.mpr ⟨(List.forall_mem_append.mpr ⟨wini_0, wini_1⟩), wini_2⟩), wini_3⟩), wini_4⟩)
theorem w_sta : ∀ m ∈ mSta, Cond.static (yN m) ∈ gw := wstat_0
theorem w_vir : ∀ m ∈ mVir, Cond.instanceMethod (yN m) ∈ gw ∧ Cond.selects (yN m).cls (yN m) (yN m) ∈ gw := (List.forall_mem_append.mpr ⟨(List.forall_mem_append.mpr ⟨(List.forall_mem_append.mpr ⟨(List.forall_mem_append.mpr ⟨wvirt_0, wvirt_1⟩), wvirt_2⟩), wvirt_3⟩), wvirt_4⟩)
def fLk : List ((Nat × Nat) × Nat) := [((0, 9), 0), ((0, 15), 4), ((0, 26), 3), ((0, 29), 2), ((0, 47), 313), ((0, 53), 314), ((0, 64), 306), ((0, 75), 300), ((0, 82), 301), ((0, 88), 302), ((0, 92), 303), ((0, 97), 304), ((0, 100), 5), ((0, 119), 1), ((1, 9), 100), ((1, 15), 103), ((1, 18), 104), ((1, 21), 305), ((1, 34), 101), ((1, 38), 102), ((1, 41), 314), ((1, 44), 306), ((1, 51), 311), ((1, 58), 312), ((1, 67), 313), ((1, 70), 307), ((2, 9), 200), ((2, 15), 202), ((2, 18), 203), ((2, 22), 204), ((2, 42), 102), ((2, 46), 201), ((2, 55), 300), ((2, 58), 312), ((2, 61), 305), ((3, 9), 301), ((3, 15), 302), ((3, 18), 303), ((3, 21), 304), ((3, 24), 305), ((3, 27), 307), ((3, 30), 308), ((3, 33), 309), ((3, 36), 310), ((3, 39), 311), ((3, 42), 313), ((3, 46), 314), ((3, 49), 300), ((3, 58), 306), ((3, 61), 312), ((3, 64), 315), ((4, 9), 402), ((4, 15), 400), ((4, 19), 401), ((5, 9), 500), ((5, 15), 501), ((5, 19), 300), ((6, 10), 600), ((6, 16), 601), ((6, 19), 602), ((6, 25), 603), ((6, 34), 604), ((6, 41), 605), ((6, 48), 606), ((6, 55), 607), ((6, 59), 608), ((6, 72), 300), ((6, 81), 301), ((6, 91), 302), ((6, 94), 303), ((6, 97), 304), ((6, 100), 305), ((6, 116), 306), ((6, 126), 307), ((6, 129), 308), ((6, 132), 309), ((6, 135), 310), ((6, 138), 311), ((6, 162), 312), ((6, 165), 313), ((6, 168), 314), ((6, 175), 101), ((6, 192), 315), ((6, 229), 201), ((6, 232), 200), ((6, 250), 1), ((6, 253), 0), ((6, 271), 401), ((6, 277), 402), ((6, 285), 400), ((6, 297), 100), ((6, 300), 609), ((7, 9), 700), ((7, 13), 701), ((7, 16), 702), ((7, 19), 704), ((7, 22), 706), ((7, 25), 709), ((7, 28), 710), ((7, 31), 711), ((7, 34), 712), ((7, 37), 713), ((7, 40), 715), ((7, 44), 716), ((7, 47), 722), ((7, 50), 723), ((7, 53), 724), ((7, 57), 725), ((7, 61), 705), ((7, 129), 707), ((7, 132), 708), ((7, 189), 714), ((7, 192), 718), ((7, 195), 717), ((7, 201), 720), ((7, 204), 719), ((7, 211), 721), ((7, 247), 703), ((8, 9), 800), ((8, 15), 801)]
def mLk : List ((Nat × Nat) × Nat × Nat) := [((0, 19), (8, 0)), ((0, 22), (1, 0)), ((0, 34), (5, 0)), ((0, 38), (3, 0)), ((0, 43), (4, 0)), ((0, 55), (2, 0)), ((0, 60), (6, 0)), ((0, 71), (302, 0)), ((0, 78), (301, 0)), ((0, 103), (649, 1)), ((0, 107), (800, 0)), ((0, 111), (801, 0)), ((0, 115), (7, 0)), ((0, 122), (9, 0)), ((0, 126), (10, 0)), ((0, 129), (911, 0)), ((1, 26), (652, 1)), ((1, 30), (102, 0)), ((1, 47), (103, 0)), ((1, 54), (100, 0)), ((1, 61), (911, 0)), ((1, 73), (651, 1)), ((1, 77), (303, 0)), ((1, 80), (305, 0)), ((1, 82), (306, 0)), ((1, 84), (900, 0)), ((1, 89), (650, 1)), ((2, 26), (650, 1)), ((2, 30), (300, 0)), ((2, 36), (101, 0)), ((2, 64), (204, 0)), ((3, 67), (650, 1)), ((3, 71), (303, 0)), ((3, 74), (307, 0)), ((3, 78), (911, 0)), ((3, 84), (304, 0)), ((3, 87), (311, 0)), ((3, 90), (901, 0)), ((3, 95), (652, 1)), ((4, 22), (930, 0)), ((5, 24), (650, 1)), ((5, 28), (304, 0)), ((5, 31), (901, 0)), ((5, 36), (501, 0)), ((6, 63), (648, 0)), ((6, 68), (641, 0)), ((6, 77), (301, 0)), ((6, 84), (642, 0)), ((6, 87), (649, 0)), ((6, 103), (307, 0)), ((6, 106), (645, 0)), ((6, 109), (652, 0)), ((6, 113), (646, 0)), ((6, 119), (302, 0)), ((6, 123), (643, 0)), ((6, 141), (305, 0)), ((6, 144), (306, 0)), ((6, 148), (651, 0)), ((6, 153), (303, 0)), ((6, 156), (304, 0)), ((6, 159), (615, 0)), ((6, 171), (101, 0)), ((6, 178), (910, 0)), ((6, 183), (644, 0)), ((6, 186), (650, 0)), ((6, 189), (310, 0)), ((6, 195), (311, 0)), ((6, 198), (312, 0)), ((6, 201), (313, 0)), ((6, 204), (901, 0)), ((6, 210), (200, 0)), ((6, 213), (201, 0)), ((6, 216), (202, 0)), ((6, 221), (203, 0)), ((6, 225), (204, 1)), ((6, 235), (500, 0)), ((6, 238), (501, 0)), ((6, 241), (502, 0)), ((6, 244), (314, 0)), ((6, 247), (100, 0)), ((6, 257), (300, 0)), ((6, 260), (0, 0)), ((6, 264), (647, 0)), ((6, 267), (401, 0)), ((6, 272), (400, 0)), ((6, 281), (402, 0)), ((6, 288), (403, 0)), ((6, 304), (309, 0)), ((6, 307), (308, 0)), ((7, 65), (701, 0)), ((7, 69), (708, 0)), ((7, 73), (713, 0)), ((7, 77), (700, 0)), ((7, 82), (712, 0)), ((7, 86), (709, 0)), ((7, 90), (704, 0)), ((7, 93), (707, 0)), ((7, 96), (715, 0)), ((7, 99), (710, 0)), ((7, 102), (718, 0)), ((7, 106), (721, 0)), ((7, 110), (722, 0)), ((7, 113), (705, 0)), ((7, 116), (723, 0)), ((7, 119), (725, 0)), ((7, 123), (729, 0)), ((7, 126), (720, 0)), ((7, 135), (732, 0)), ((7, 138), (702, 0)), ((7, 142), (733, 0)), ((7, 146), (706, 0)), ((7, 150), (738, 0)), ((7, 153), (741, 0)), ((7, 156), (742, 0)), ((7, 159), (711, 0)), ((7, 162), (744, 0)), ((7, 165), (746, 0)), ((7, 169), (703, 0)), ((7, 173), (751, 0)), ((7, 177), (754, 0)), ((7, 180), (756, 0)), ((7, 183), (757, 0)), ((7, 186), (760, 0)), ((7, 198), (764, 0)), ((7, 207), (765, 0)), ((7, 215), (766, 0)), ((7, 218), (767, 0)), ((7, 221), (769, 0)), ((7, 224), (768, 0)), ((7, 227), (770, 0)), ((7, 231), (771, 0)), ((7, 234), (772, 0)), ((7, 237), (773, 0)), ((7, 240), (775, 0)), ((7, 244), (778, 0)), ((7, 250), (785, 0)), ((7, 253), (786, 0)), ((8, 335), (802, 0)), ((8, 492), (803, 0)), ((8, 495), (920, 0)), ((8, 1059), (940, 0)), ((10, 13), (600, 0)), ((10, 17), (714, 0)), ((10, 18), (601, 0)), ((10, 22), (716, 0)), ((10, 23), (602, 0)), ((10, 27), (717, 0)), ((10, 28), (603, 0)), ((10, 32), (719, 0)), ((10, 33), (604, 0)), ((10, 36), (724, 0)), ((10, 37), (605, 0)), ((10, 40), (726, 0)), ((10, 41), (606, 0)), ((10, 44), (727, 0)), ((10, 45), (607, 0)), ((10, 48), (728, 0)), ((10, 49), (608, 0)), ((10, 53), (730, 0)), ((10, 54), (609, 0)), ((10, 57), (731, 0)), ((10, 58), (610, 0)), ((10, 61), (734, 0)), ((10, 62), (611, 0)), ((10, 65), (735, 0)), ((10, 66), (612, 0)), ((10, 69), (736, 0)), ((10, 70), (613, 0)), ((10, 74), (737, 0)), ((10, 75), (614, 0)), ((10, 78), (739, 0)), ((10, 79), (615, 0)), ((10, 82), (740, 0)), ((10, 83), (616, 0)), ((10, 86), (743, 0)), ((10, 87), (617, 0)), ((10, 90), (745, 0)), ((10, 91), (618, 0)), ((10, 94), (747, 0)), ((10, 95), (619, 0)), ((10, 99), (748, 0)), ((10, 100), (620, 0)), ((10, 103), (749, 0)), ((10, 104), (621, 0)), ((10, 107), (750, 0)), ((10, 108), (622, 0)), ((10, 111), (752, 0)), ((10, 112), (623, 0)), ((10, 115), (753, 0)), ((10, 116), (624, 0)), ((10, 119), (755, 0)), ((10, 120), (625, 0)), ((10, 123), (758, 0)), ((10, 124), (626, 0)), ((10, 127), (759, 0)), ((10, 128), (627, 0)), ((10, 131), (761, 0)), ((10, 132), (628, 0)), ((10, 135), (762, 0)), ((10, 136), (629, 0)), ((10, 139), (763, 0)), ((10, 140), (630, 0)), ((10, 143), (774, 0)), ((10, 144), (631, 0)), ((10, 147), (776, 0)), ((10, 150), (632, 0)), ((10, 154), (777, 0)), ((10, 155), (633, 0)), ((10, 158), (779, 0)), ((10, 159), (634, 0)), ((10, 162), (780, 0)), ((10, 163), (635, 0)), ((10, 166), (781, 0)), ((10, 167), (636, 0)), ((10, 170), (782, 0)), ((10, 171), (637, 0)), ((10, 174), (783, 0)), ((10, 175), (638, 0)), ((10, 178), (784, 0)), ((10, 179), (639, 0)), ((10, 182), (787, 0)), ((10, 183), (640, 0)), ((10, 186), (788, 0)), ((920, 9), (804, 0))]
def iLk : List ((Nat × Nat) × Int) := [((6, 67), -1000000001), ((6, 76), -1000000002), ((6, 152), -1000000003), ((6, 209), -1000000004), ((6, 220), -1000000007), ((6, 276), -1000000006), ((7, 60), -1000000001), ((7, 81), -1000000002), ((7, 122), -1000000003), ((7, 168), -1000000004), ((7, 176), -1000000007), ((7, 243), -1000000006), ((900, 264), 65536), ((901, 265), 1431655765), ((901, 266), 858993459), ((901, 267), 252645135)]
def lLk : List ((Nat × Nat) × Int) := [((10, 148), 4294967295)]
def pLk : List ((Nat × Nat) × Nat) := [((2, 49), 1), ((3, 52), 1), ((6, 291), 1)]
def zLk : List ((Nat × Nat) × Nat) := [((8, 38), 1)]
def qLk : List ((Nat × Nat) × Nat) := [((8, 1053), 1)]
def vLk : List ((Nat × Nat) × Nat) := [((6, 310), 1)]
def sLk : List ((Nat × Nat) × Nat) := [((0, 32), 110), ((0, 41), 111), ((0, 51), 112), ((0, 58), 117), ((0, 67), 118), ((0, 69), 113), ((0, 86), 114), ((0, 90), 115), ((0, 95), 116)]
def TT (c : Nat) : u_T := match c with
  | 0 => TX0
  | 1 => TX1
  | 2 => TX2
  | 3 => TX3
  | 4 => TX4
  | 5 => TX5
  | 6 => TX6
  | 7 => TX7
  | _ => fun _ => ("java/lang/String", "value", "[B", true)
def fNm (q : Nat) : String × String × String := if q = 800 then ("java/lang/String", "value", "[B") else if q = 801 then ("java/lang/String", "coder", "B") else ((TT (q / 100) (q % 100)).1, (TT (q / 100) (q % 100)).2.1, (TT (q / 100) (q % 100)).2.2.1)
theorem w_fl_0 : Cond.fieldLink (csN 0) 9 (fNm 0).1 (fNm 0).2.1 (fNm 0).2.2 ∈ gw := gw_in 239 (by decide +kernel) (by decide +kernel)
theorem w_fl_1 : Cond.fieldLink (csN 0) 15 (fNm 4).1 (fNm 4).2.1 (fNm 4).2.2 ∈ gw := gw_in 245 (by decide +kernel) (by decide +kernel)
theorem w_fl_2 : Cond.fieldLink (csN 0) 26 (fNm 3).1 (fNm 3).2.1 (fNm 3).2.2 ∈ gw := gw_in 244 (by decide +kernel) (by decide +kernel)
theorem w_fl_3 : Cond.fieldLink (csN 0) 29 (fNm 2).1 (fNm 2).2.1 (fNm 2).2.2 ∈ gw := gw_in 243 (by decide +kernel) (by decide +kernel)
theorem w_fl_4 : Cond.fieldLink (csN 0) 47 (fNm 313).1 (fNm 313).2.1 (fNm 313).2.2 ∈ gw := gw_in 128 (by decide +kernel) (by decide +kernel)
theorem w_fl_5 : Cond.fieldLink (csN 0) 53 (fNm 314).1 (fNm 314).2.1 (fNm 314).2.2 ∈ gw := gw_in 133 (by decide +kernel) (by decide +kernel)
theorem w_fl_6 : Cond.fieldLink (csN 0) 64 (fNm 306).1 (fNm 306).2.1 (fNm 306).2.2 ∈ gw := gw_in 109 (by decide +kernel) (by decide +kernel)
theorem w_fl_7 : Cond.fieldLink (csN 0) 75 (fNm 300).1 (fNm 300).2.1 (fNm 300).2.2 ∈ gw := gw_in 89 (by decide +kernel) (by decide +kernel)
theorem w_fl_8 : Cond.fieldLink (csN 0) 82 (fNm 301).1 (fNm 301).2.1 (fNm 301).2.2 ∈ gw := gw_in 93 (by decide +kernel) (by decide +kernel)
theorem w_fl_9 : Cond.fieldLink (csN 0) 88 (fNm 302).1 (fNm 302).2.1 (fNm 302).2.2 ∈ gw := gw_in 96 (by decide +kernel) (by decide +kernel)
theorem w_fl_10 : Cond.fieldLink (csN 0) 92 (fNm 303).1 (fNm 303).2.1 (fNm 303).2.2 ∈ gw := gw_in 99 (by decide +kernel) (by decide +kernel)
theorem w_fl_11 : Cond.fieldLink (csN 0) 97 (fNm 304).1 (fNm 304).2.1 (fNm 304).2.2 ∈ gw := gw_in 102 (by decide +kernel) (by decide +kernel)
theorem w_fl_12 : Cond.fieldLink (csN 0) 100 (fNm 5).1 (fNm 5).2.1 (fNm 5).2.2 ∈ gw := gw_in 246 (by decide +kernel) (by decide +kernel)
theorem w_fl_13 : Cond.fieldLink (csN 0) 119 (fNm 1).1 (fNm 1).2.1 (fNm 1).2.2 ∈ gw := gw_in 241 (by decide +kernel) (by decide +kernel)
theorem w_fl_14 : Cond.fieldLink (csN 1) 9 (fNm 100).1 (fNm 100).2.1 (fNm 100).2.2 ∈ gw := gw_in 177 (by decide +kernel) (by decide +kernel)
theorem w_fl_15 : Cond.fieldLink (csN 1) 15 (fNm 103).1 (fNm 103).2.1 (fNm 103).2.2 ∈ gw := gw_in 183 (by decide +kernel) (by decide +kernel)
theorem w_fl_16 : Cond.fieldLink (csN 1) 18 (fNm 104).1 (fNm 104).2.1 (fNm 104).2.2 ∈ gw := gw_in 184 (by decide +kernel) (by decide +kernel)
theorem w_fl_17 : Cond.fieldLink (csN 1) 21 (fNm 305).1 (fNm 305).2.1 (fNm 305).2.2 ∈ gw := gw_in 104 (by decide +kernel) (by decide +kernel)
theorem w_fl_18 : Cond.fieldLink (csN 1) 34 (fNm 101).1 (fNm 101).2.1 (fNm 101).2.2 ∈ gw := gw_in 179 (by decide +kernel) (by decide +kernel)
theorem w_fl_19 : Cond.fieldLink (csN 1) 38 (fNm 102).1 (fNm 102).2.1 (fNm 102).2.2 ∈ gw := gw_in 181 (by decide +kernel) (by decide +kernel)
theorem w_fl_20 : Cond.fieldLink (csN 1) 41 (fNm 314).1 (fNm 314).2.1 (fNm 314).2.2 ∈ gw := gw_in 132 (by decide +kernel) (by decide +kernel)
theorem w_fl_21 : Cond.fieldLink (csN 1) 44 (fNm 306).1 (fNm 306).2.1 (fNm 306).2.2 ∈ gw := gw_in 107 (by decide +kernel) (by decide +kernel)
theorem w_fl_22 : Cond.fieldLink (csN 1) 51 (fNm 311).1 (fNm 311).2.1 (fNm 311).2.2 ∈ gw := gw_in 121 (by decide +kernel) (by decide +kernel)
theorem w_fl_23 : Cond.fieldLink (csN 1) 58 (fNm 312).1 (fNm 312).2.1 (fNm 312).2.2 ∈ gw := gw_in 124 (by decide +kernel) (by decide +kernel)
theorem w_fl_24 : Cond.fieldLink (csN 1) 67 (fNm 313).1 (fNm 313).2.1 (fNm 313).2.2 ∈ gw := gw_in 129 (by decide +kernel) (by decide +kernel)
theorem w_fl_25 : Cond.fieldLink (csN 1) 70 (fNm 307).1 (fNm 307).2.1 (fNm 307).2.2 ∈ gw := gw_in 112 (by decide +kernel) (by decide +kernel)
theorem w_fl_26 : Cond.fieldLink (csN 2) 9 (fNm 200).1 (fNm 200).2.1 (fNm 200).2.2 ∈ gw := gw_in 202 (by decide +kernel) (by decide +kernel)
theorem w_fl_27 : Cond.fieldLink (csN 2) 15 (fNm 202).1 (fNm 202).2.1 (fNm 202).2.2 ∈ gw := gw_in 206 (by decide +kernel) (by decide +kernel)
theorem w_fl_28 : Cond.fieldLink (csN 2) 18 (fNm 203).1 (fNm 203).2.1 (fNm 203).2.2 ∈ gw := gw_in 207 (by decide +kernel) (by decide +kernel)
theorem w_fl_29 : Cond.fieldLink (csN 2) 22 (fNm 204).1 (fNm 204).2.1 (fNm 204).2.2 ∈ gw := gw_in 208 (by decide +kernel) (by decide +kernel)
theorem w_fl_30 : Cond.fieldLink (csN 2) 42 (fNm 102).1 (fNm 102).2.1 (fNm 102).2.2 ∈ gw := gw_in 182 (by decide +kernel) (by decide +kernel)
theorem w_fl_31 : Cond.fieldLink (csN 2) 46 (fNm 201).1 (fNm 201).2.1 (fNm 201).2.2 ∈ gw := gw_in 204 (by decide +kernel) (by decide +kernel)
theorem w_fl_32 : Cond.fieldLink (csN 2) 55 (fNm 300).1 (fNm 300).2.1 (fNm 300).2.2 ∈ gw := gw_in 90 (by decide +kernel) (by decide +kernel)
theorem w_fl_33 : Cond.fieldLink (csN 2) 58 (fNm 312).1 (fNm 312).2.1 (fNm 312).2.2 ∈ gw := gw_in 125 (by decide +kernel) (by decide +kernel)
theorem w_fl_34 : Cond.fieldLink (csN 2) 61 (fNm 305).1 (fNm 305).2.1 (fNm 305).2.2 ∈ gw := gw_in 106 (by decide +kernel) (by decide +kernel)
theorem w_fl_35 : Cond.fieldLink (csN 3) 9 (fNm 301).1 (fNm 301).2.1 (fNm 301).2.2 ∈ gw := gw_in 91 (by decide +kernel) (by decide +kernel)
theorem w_fl_36 : Cond.fieldLink (csN 3) 15 (fNm 302).1 (fNm 302).2.1 (fNm 302).2.2 ∈ gw := gw_in 94 (by decide +kernel) (by decide +kernel)
theorem w_fl_37 : Cond.fieldLink (csN 3) 18 (fNm 303).1 (fNm 303).2.1 (fNm 303).2.2 ∈ gw := gw_in 97 (by decide +kernel) (by decide +kernel)
theorem w_fl_38 : Cond.fieldLink (csN 3) 21 (fNm 304).1 (fNm 304).2.1 (fNm 304).2.2 ∈ gw := gw_in 100 (by decide +kernel) (by decide +kernel)
theorem w_fl_39 : Cond.fieldLink (csN 3) 24 (fNm 305).1 (fNm 305).2.1 (fNm 305).2.2 ∈ gw := gw_in 103 (by decide +kernel) (by decide +kernel)
theorem w_fl_40 : Cond.fieldLink (csN 3) 27 (fNm 307).1 (fNm 307).2.1 (fNm 307).2.2 ∈ gw := gw_in 111 (by decide +kernel) (by decide +kernel)
theorem w_fl_41 : Cond.fieldLink (csN 3) 30 (fNm 308).1 (fNm 308).2.1 (fNm 308).2.2 ∈ gw := gw_in 114 (by decide +kernel) (by decide +kernel)
theorem w_fl_42 : Cond.fieldLink (csN 3) 33 (fNm 309).1 (fNm 309).2.1 (fNm 309).2.2 ∈ gw := gw_in 116 (by decide +kernel) (by decide +kernel)
theorem w_fl_43 : Cond.fieldLink (csN 3) 36 (fNm 310).1 (fNm 310).2.1 (fNm 310).2.2 ∈ gw := gw_in 118 (by decide +kernel) (by decide +kernel)
theorem w_fl_44 : Cond.fieldLink (csN 3) 39 (fNm 311).1 (fNm 311).2.1 (fNm 311).2.2 ∈ gw := gw_in 120 (by decide +kernel) (by decide +kernel)
theorem w_fl_45 : Cond.fieldLink (csN 3) 42 (fNm 313).1 (fNm 313).2.1 (fNm 313).2.2 ∈ gw := gw_in 127 (by decide +kernel) (by decide +kernel)
theorem w_fl_46 : Cond.fieldLink (csN 3) 46 (fNm 314).1 (fNm 314).2.1 (fNm 314).2.2 ∈ gw := gw_in 131 (by decide +kernel) (by decide +kernel)
theorem w_fl_47 : Cond.fieldLink (csN 3) 49 (fNm 300).1 (fNm 300).2.1 (fNm 300).2.2 ∈ gw := gw_in 86 (by decide +kernel) (by decide +kernel)
theorem w_fl_48 : Cond.fieldLink (csN 3) 58 (fNm 306).1 (fNm 306).2.1 (fNm 306).2.2 ∈ gw := gw_in 108 (by decide +kernel) (by decide +kernel)
theorem w_fl_49 : Cond.fieldLink (csN 3) 61 (fNm 312).1 (fNm 312).2.1 (fNm 312).2.2 ∈ gw := gw_in 123 (by decide +kernel) (by decide +kernel)
theorem w_fl_50 : Cond.fieldLink (csN 3) 64 (fNm 315).1 (fNm 315).2.1 (fNm 315).2.2 ∈ gw := gw_in 135 (by decide +kernel) (by decide +kernel)
theorem w_fl_51 : Cond.fieldLink (csN 4) 9 (fNm 402).1 (fNm 402).2.1 (fNm 402).2.2 ∈ gw := gw_in 272 (by decide +kernel) (by decide +kernel)
theorem w_fl_52 : Cond.fieldLink (csN 4) 15 (fNm 400).1 (fNm 400).2.1 (fNm 400).2.2 ∈ gw := gw_in 268 (by decide +kernel) (by decide +kernel)
theorem w_fl_53 : Cond.fieldLink (csN 4) 19 (fNm 401).1 (fNm 401).2.1 (fNm 401).2.2 ∈ gw := gw_in 270 (by decide +kernel) (by decide +kernel)
theorem w_fl_54 : Cond.fieldLink (csN 5) 9 (fNm 500).1 (fNm 500).2.1 (fNm 500).2.2 ∈ gw := gw_in 226 (by decide +kernel) (by decide +kernel)
theorem w_fl_55 : Cond.fieldLink (csN 5) 15 (fNm 501).1 (fNm 501).2.1 (fNm 501).2.2 ∈ gw := gw_in 227 (by decide +kernel) (by decide +kernel)
theorem w_fl_56 : Cond.fieldLink (csN 5) 19 (fNm 300).1 (fNm 300).2.1 (fNm 300).2.2 ∈ gw := gw_in 87 (by decide +kernel) (by decide +kernel)
theorem w_fl_57 : Cond.fieldLink (csN 6) 10 (fNm 600).1 (fNm 600).2.1 (fNm 600).2.2 ∈ gw := gw_in 282 (by decide +kernel) (by decide +kernel)
theorem w_fl_58 : Cond.fieldLink (csN 6) 16 (fNm 601).1 (fNm 601).2.1 (fNm 601).2.2 ∈ gw := gw_in 283 (by decide +kernel) (by decide +kernel)
theorem w_fl_59 : Cond.fieldLink (csN 6) 19 (fNm 602).1 (fNm 602).2.1 (fNm 602).2.2 ∈ gw := gw_in 284 (by decide +kernel) (by decide +kernel)
theorem w_fl_60 : Cond.fieldLink (csN 6) 25 (fNm 603).1 (fNm 603).2.1 (fNm 603).2.2 ∈ gw := gw_in 285 (by decide +kernel) (by decide +kernel)
theorem w_fl_61 : Cond.fieldLink (csN 6) 34 (fNm 604).1 (fNm 604).2.1 (fNm 604).2.2 ∈ gw := gw_in 286 (by decide +kernel) (by decide +kernel)
theorem w_fl_62 : Cond.fieldLink (csN 6) 41 (fNm 605).1 (fNm 605).2.1 (fNm 605).2.2 ∈ gw := gw_in 287 (by decide +kernel) (by decide +kernel)
theorem w_fl_63 : Cond.fieldLink (csN 6) 48 (fNm 606).1 (fNm 606).2.1 (fNm 606).2.2 ∈ gw := gw_in 288 (by decide +kernel) (by decide +kernel)
theorem w_fl_64 : Cond.fieldLink (csN 6) 55 (fNm 607).1 (fNm 607).2.1 (fNm 607).2.2 ∈ gw := gw_in 289 (by decide +kernel) (by decide +kernel)
theorem w_fl_65 : Cond.fieldLink (csN 6) 59 (fNm 608).1 (fNm 608).2.1 (fNm 608).2.2 ∈ gw := gw_in 290 (by decide +kernel) (by decide +kernel)
theorem w_fl_66 : Cond.fieldLink (csN 6) 72 (fNm 300).1 (fNm 300).2.1 (fNm 300).2.2 ∈ gw := gw_in 88 (by decide +kernel) (by decide +kernel)
theorem w_fl_67 : Cond.fieldLink (csN 6) 81 (fNm 301).1 (fNm 301).2.1 (fNm 301).2.2 ∈ gw := gw_in 92 (by decide +kernel) (by decide +kernel)
theorem w_fl_68 : Cond.fieldLink (csN 6) 91 (fNm 302).1 (fNm 302).2.1 (fNm 302).2.2 ∈ gw := gw_in 95 (by decide +kernel) (by decide +kernel)
theorem w_fl_69 : Cond.fieldLink (csN 6) 94 (fNm 303).1 (fNm 303).2.1 (fNm 303).2.2 ∈ gw := gw_in 98 (by decide +kernel) (by decide +kernel)
theorem w_fl_70 : Cond.fieldLink (csN 6) 97 (fNm 304).1 (fNm 304).2.1 (fNm 304).2.2 ∈ gw := gw_in 101 (by decide +kernel) (by decide +kernel)
theorem w_fl_71 : Cond.fieldLink (csN 6) 100 (fNm 305).1 (fNm 305).2.1 (fNm 305).2.2 ∈ gw := gw_in 105 (by decide +kernel) (by decide +kernel)
theorem w_fl_72 : Cond.fieldLink (csN 6) 116 (fNm 306).1 (fNm 306).2.1 (fNm 306).2.2 ∈ gw := gw_in 110 (by decide +kernel) (by decide +kernel)
theorem w_fl_73 : Cond.fieldLink (csN 6) 126 (fNm 307).1 (fNm 307).2.1 (fNm 307).2.2 ∈ gw := gw_in 113 (by decide +kernel) (by decide +kernel)
theorem w_fl_74 : Cond.fieldLink (csN 6) 129 (fNm 308).1 (fNm 308).2.1 (fNm 308).2.2 ∈ gw := gw_in 115 (by decide +kernel) (by decide +kernel)
theorem w_fl_75 : Cond.fieldLink (csN 6) 132 (fNm 309).1 (fNm 309).2.1 (fNm 309).2.2 ∈ gw := gw_in 117 (by decide +kernel) (by decide +kernel)
theorem w_fl_76 : Cond.fieldLink (csN 6) 135 (fNm 310).1 (fNm 310).2.1 (fNm 310).2.2 ∈ gw := gw_in 119 (by decide +kernel) (by decide +kernel)
theorem w_fl_77 : Cond.fieldLink (csN 6) 138 (fNm 311).1 (fNm 311).2.1 (fNm 311).2.2 ∈ gw := gw_in 122 (by decide +kernel) (by decide +kernel)
theorem w_fl_78 : Cond.fieldLink (csN 6) 162 (fNm 312).1 (fNm 312).2.1 (fNm 312).2.2 ∈ gw := gw_in 126 (by decide +kernel) (by decide +kernel)
theorem w_fl_79 : Cond.fieldLink (csN 6) 165 (fNm 313).1 (fNm 313).2.1 (fNm 313).2.2 ∈ gw := gw_in 130 (by decide +kernel) (by decide +kernel)
theorem w_fl_80 : Cond.fieldLink (csN 6) 168 (fNm 314).1 (fNm 314).2.1 (fNm 314).2.2 ∈ gw := gw_in 134 (by decide +kernel) (by decide +kernel)
theorem w_fl_81 : Cond.fieldLink (csN 6) 175 (fNm 101).1 (fNm 101).2.1 (fNm 101).2.2 ∈ gw := gw_in 180 (by decide +kernel) (by decide +kernel)
theorem w_fl_82 : Cond.fieldLink (csN 6) 192 (fNm 315).1 (fNm 315).2.1 (fNm 315).2.2 ∈ gw := gw_in 136 (by decide +kernel) (by decide +kernel)
theorem w_fl_83 : Cond.fieldLink (csN 6) 229 (fNm 201).1 (fNm 201).2.1 (fNm 201).2.2 ∈ gw := gw_in 205 (by decide +kernel) (by decide +kernel)
theorem w_fl_84 : Cond.fieldLink (csN 6) 232 (fNm 200).1 (fNm 200).2.1 (fNm 200).2.2 ∈ gw := gw_in 203 (by decide +kernel) (by decide +kernel)
theorem w_fl_85 : Cond.fieldLink (csN 6) 250 (fNm 1).1 (fNm 1).2.1 (fNm 1).2.2 ∈ gw := gw_in 242 (by decide +kernel) (by decide +kernel)
theorem w_fl_86 : Cond.fieldLink (csN 6) 253 (fNm 0).1 (fNm 0).2.1 (fNm 0).2.2 ∈ gw := gw_in 240 (by decide +kernel) (by decide +kernel)
theorem w_fl_87 : Cond.fieldLink (csN 6) 271 (fNm 401).1 (fNm 401).2.1 (fNm 401).2.2 ∈ gw := gw_in 271 (by decide +kernel) (by decide +kernel)
theorem w_fl_88 : Cond.fieldLink (csN 6) 277 (fNm 402).1 (fNm 402).2.1 (fNm 402).2.2 ∈ gw := gw_in 273 (by decide +kernel) (by decide +kernel)
theorem w_fl_89 : Cond.fieldLink (csN 6) 285 (fNm 400).1 (fNm 400).2.1 (fNm 400).2.2 ∈ gw := gw_in 269 (by decide +kernel) (by decide +kernel)
theorem w_fl_90 : Cond.fieldLink (csN 6) 297 (fNm 100).1 (fNm 100).2.1 (fNm 100).2.2 ∈ gw := gw_in 178 (by decide +kernel) (by decide +kernel)
theorem w_fl_91 : Cond.fieldLink (csN 6) 300 (fNm 609).1 (fNm 609).2.1 (fNm 609).2.2 ∈ gw := gw_in 291 (by decide +kernel) (by decide +kernel)
theorem w_fl_92 : Cond.fieldLink (csN 7) 9 (fNm 700).1 (fNm 700).2.1 (fNm 700).2.2 ∈ gw := gw_in 805 (by decide +kernel) (by decide +kernel)
theorem w_fl_93 : Cond.fieldLink (csN 7) 13 (fNm 701).1 (fNm 701).2.1 (fNm 701).2.2 ∈ gw := gw_in 806 (by decide +kernel) (by decide +kernel)
theorem w_fl_94 : Cond.fieldLink (csN 7) 16 (fNm 702).1 (fNm 702).2.1 (fNm 702).2.2 ∈ gw := gw_in 807 (by decide +kernel) (by decide +kernel)
theorem w_fl_95 : Cond.fieldLink (csN 7) 19 (fNm 704).1 (fNm 704).2.1 (fNm 704).2.2 ∈ gw := gw_in 809 (by decide +kernel) (by decide +kernel)
theorem w_fl_96 : Cond.fieldLink (csN 7) 22 (fNm 706).1 (fNm 706).2.1 (fNm 706).2.2 ∈ gw := gw_in 811 (by decide +kernel) (by decide +kernel)
theorem w_fl_97 : Cond.fieldLink (csN 7) 25 (fNm 709).1 (fNm 709).2.1 (fNm 709).2.2 ∈ gw := gw_in 814 (by decide +kernel) (by decide +kernel)
theorem w_fl_98 : Cond.fieldLink (csN 7) 28 (fNm 710).1 (fNm 710).2.1 (fNm 710).2.2 ∈ gw := gw_in 815 (by decide +kernel) (by decide +kernel)
theorem w_fl_99 : Cond.fieldLink (csN 7) 31 (fNm 711).1 (fNm 711).2.1 (fNm 711).2.2 ∈ gw := gw_in 816 (by decide +kernel) (by decide +kernel)
theorem w_fl_100 : Cond.fieldLink (csN 7) 34 (fNm 712).1 (fNm 712).2.1 (fNm 712).2.2 ∈ gw := gw_in 817 (by decide +kernel) (by decide +kernel)
theorem w_fl_101 : Cond.fieldLink (csN 7) 37 (fNm 713).1 (fNm 713).2.1 (fNm 713).2.2 ∈ gw := gw_in 818 (by decide +kernel) (by decide +kernel)
theorem w_fl_102 : Cond.fieldLink (csN 7) 40 (fNm 715).1 (fNm 715).2.1 (fNm 715).2.2 ∈ gw := gw_in 820 (by decide +kernel) (by decide +kernel)
theorem w_fl_103 : Cond.fieldLink (csN 7) 44 (fNm 716).1 (fNm 716).2.1 (fNm 716).2.2 ∈ gw := gw_in 821 (by decide +kernel) (by decide +kernel)
theorem w_fl_104 : Cond.fieldLink (csN 7) 47 (fNm 722).1 (fNm 722).2.1 (fNm 722).2.2 ∈ gw := gw_in 827 (by decide +kernel) (by decide +kernel)
theorem w_fl_105 : Cond.fieldLink (csN 7) 50 (fNm 723).1 (fNm 723).2.1 (fNm 723).2.2 ∈ gw := gw_in 828 (by decide +kernel) (by decide +kernel)
theorem w_fl_106 : Cond.fieldLink (csN 7) 53 (fNm 724).1 (fNm 724).2.1 (fNm 724).2.2 ∈ gw := gw_in 829 (by decide +kernel) (by decide +kernel)
theorem w_fl_107 : Cond.fieldLink (csN 7) 57 (fNm 725).1 (fNm 725).2.1 (fNm 725).2.2 ∈ gw := gw_in 830 (by decide +kernel) (by decide +kernel)
theorem w_fl_108 : Cond.fieldLink (csN 7) 61 (fNm 705).1 (fNm 705).2.1 (fNm 705).2.2 ∈ gw := gw_in 810 (by decide +kernel) (by decide +kernel)
theorem w_fl_109 : Cond.fieldLink (csN 7) 129 (fNm 707).1 (fNm 707).2.1 (fNm 707).2.2 ∈ gw := gw_in 812 (by decide +kernel) (by decide +kernel)
theorem w_fl_110 : Cond.fieldLink (csN 7) 132 (fNm 708).1 (fNm 708).2.1 (fNm 708).2.2 ∈ gw := gw_in 813 (by decide +kernel) (by decide +kernel)
theorem w_fl_111 : Cond.fieldLink (csN 7) 189 (fNm 714).1 (fNm 714).2.1 (fNm 714).2.2 ∈ gw := gw_in 819 (by decide +kernel) (by decide +kernel)
theorem w_fl_112 : Cond.fieldLink (csN 7) 192 (fNm 718).1 (fNm 718).2.1 (fNm 718).2.2 ∈ gw := gw_in 823 (by decide +kernel) (by decide +kernel)
theorem w_fl_113 : Cond.fieldLink (csN 7) 195 (fNm 717).1 (fNm 717).2.1 (fNm 717).2.2 ∈ gw := gw_in 822 (by decide +kernel) (by decide +kernel)
theorem w_fl_114 : Cond.fieldLink (csN 7) 201 (fNm 720).1 (fNm 720).2.1 (fNm 720).2.2 ∈ gw := gw_in 825 (by decide +kernel) (by decide +kernel)
theorem w_fl_115 : Cond.fieldLink (csN 7) 204 (fNm 719).1 (fNm 719).2.1 (fNm 719).2.2 ∈ gw := gw_in 824 (by decide +kernel) (by decide +kernel)
theorem w_fl_116 : Cond.fieldLink (csN 7) 211 (fNm 721).1 (fNm 721).2.1 (fNm 721).2.2 ∈ gw := gw_in 826 (by decide +kernel) (by decide +kernel)
theorem w_fl_117 : Cond.fieldLink (csN 7) 247 (fNm 703).1 (fNm 703).2.1 (fNm 703).2.2 ∈ gw := gw_in 808 (by decide +kernel) (by decide +kernel)
theorem w_fl_118 : Cond.fieldLink (csN 8) 9 (fNm 800).1 (fNm 800).2.1 (fNm 800).2.2 ∈ gw := gw_in 1240 (by decide +kernel) (by decide +kernel)
theorem w_fl_119 : Cond.fieldLink (csN 8) 15 (fNm 801).1 (fNm 801).2.1 (fNm 801).2.2 ∈ gw := gw_in 1241 (by decide +kernel) (by decide +kernel)
theorem w_fl : ∀ e ∈ fLk, Cond.fieldLink (csN e.1.1) e.1.2 (fNm e.2).1 (fNm e.2).2.1 (fNm e.2).2.2 ∈ gw := by
  intro e h
  simp only [fLk, List.mem_cons, List.not_mem_nil, or_false] at h
  rcases h with rfl | rfl | rfl | rfl | rfl | rfl | rfl | rfl | rfl | rfl | rfl | rfl | rfl | rfl | rfl | rfl | rfl | rfl | rfl | rfl | rfl | rfl | rfl | rfl | rfl | rfl | rfl | rfl | rfl | rfl | rfl | rfl | rfl | rfl | rfl | rfl | rfl | rfl | rfl | rfl | rfl | rfl | rfl | rfl | rfl | rfl | rfl | rfl | rfl | rfl | rfl | rfl | rfl | rfl | rfl | rfl | rfl | rfl | rfl | rfl | rfl | rfl | rfl | rfl | rfl | rfl | rfl | rfl | rfl | rfl | rfl | rfl | rfl | rfl | rfl | rfl | rfl | rfl | rfl | rfl | rfl | rfl | rfl | rfl | rfl | rfl | rfl | rfl | rfl | rfl | rfl | rfl | rfl | rfl | rfl | rfl | rfl | rfl | rfl | rfl | rfl | rfl | rfl | rfl | rfl | rfl | rfl | rfl | rfl | rfl | rfl | rfl | rfl | rfl | rfl | rfl | rfl | rfl | rfl | rfl
  · exact w_fl_0
  · exact w_fl_1
  · exact w_fl_2
  · exact w_fl_3
  · exact w_fl_4
  · exact w_fl_5
  · exact w_fl_6
  · exact w_fl_7
  · exact w_fl_8
  · exact w_fl_9
  · exact w_fl_10
  · exact w_fl_11
  · exact w_fl_12
  · exact w_fl_13
  · exact w_fl_14
  · exact w_fl_15
  · exact w_fl_16
  · exact w_fl_17
  · exact w_fl_18
  · exact w_fl_19
  · exact w_fl_20
  · exact w_fl_21
  · exact w_fl_22
  · exact w_fl_23
  · exact w_fl_24
  · exact w_fl_25
  · exact w_fl_26
  · exact w_fl_27
  · exact w_fl_28
  · exact w_fl_29
  · exact w_fl_30
  · exact w_fl_31
  · exact w_fl_32
  · exact w_fl_33
  · exact w_fl_34
  · exact w_fl_35
  · exact w_fl_36
  · exact w_fl_37
  · exact w_fl_38
  · exact w_fl_39
  · exact w_fl_40
  · exact w_fl_41
  · exact w_fl_42
  · exact w_fl_43
  · exact w_fl_44
  · exact w_fl_45
  · exact w_fl_46
  · exact w_fl_47
  · exact w_fl_48
  · exact w_fl_49
  · exact w_fl_50
  · exact w_fl_51
  · exact w_fl_52
  · exact w_fl_53
  · exact w_fl_54
  · exact w_fl_55
  · exact w_fl_56
  · exact w_fl_57
  · exact w_fl_58
  · exact w_fl_59
  · exact w_fl_60
  · exact w_fl_61
  · exact w_fl_62
  · exact w_fl_63
  · exact w_fl_64
  · exact w_fl_65
  · exact w_fl_66
  · exact w_fl_67
  · exact w_fl_68
  · exact w_fl_69
  · exact w_fl_70
  · exact w_fl_71
  · exact w_fl_72
  · exact w_fl_73
  · exact w_fl_74
  · exact w_fl_75
  · exact w_fl_76
  · exact w_fl_77
  · exact w_fl_78
  · exact w_fl_79
  · exact w_fl_80
  · exact w_fl_81
  · exact w_fl_82
  · exact w_fl_83
  · exact w_fl_84
  · exact w_fl_85
  · exact w_fl_86
  · exact w_fl_87
  · exact w_fl_88
  · exact w_fl_89
  · exact w_fl_90
  · exact w_fl_91
  · exact w_fl_92
  · exact w_fl_93
  · exact w_fl_94
  · exact w_fl_95
  · exact w_fl_96
  · exact w_fl_97
  · exact w_fl_98
  · exact w_fl_99
  · exact w_fl_100
  · exact w_fl_101
  · exact w_fl_102
  · exact w_fl_103
  · exact w_fl_104
  · exact w_fl_105
  · exact w_fl_106
  · exact w_fl_107
  · exact w_fl_108
  · exact w_fl_109
  · exact w_fl_110
  · exact w_fl_111
  · exact w_fl_112
  · exact w_fl_113
  · exact w_fl_114
  · exact w_fl_115
  · exact w_fl_116
  · exact w_fl_117
  · exact w_fl_118
  · exact w_fl_119
def mLk0_0 : List ((Nat × Nat) × Nat × Nat) := [((0, 19), (8, 0)), ((0, 22), (1, 0)), ((0, 34), (5, 0)), ((0, 38), (3, 0)), ((0, 43), (4, 0)), ((0, 55), (2, 0)), ((0, 60), (6, 0)), ((0, 71), (302, 0)), ((0, 78), (301, 0)), ((0, 107), (800, 0)), ((0, 111), (801, 0)), ((0, 115), (7, 0)), ((0, 122), (9, 0)), ((0, 126), (10, 0)), ((0, 129), (911, 0)), ((1, 30), (102, 0)), ((1, 47), (103, 0)), ((1, 54), (100, 0)), ((1, 61), (911, 0)), ((1, 77), (303, 0)), ((1, 80), (305, 0)), ((1, 82), (306, 0)), ((1, 84), (900, 0)), ((2, 30), (300, 0)), ((2, 36), (101, 0)), ((2, 64), (204, 0)), ((3, 71), (303, 0)), ((3, 74), (307, 0)), ((3, 78), (911, 0)), ((3, 84), (304, 0)), ((3, 87), (311, 0)), ((3, 90), (901, 0)), ((4, 22), (930, 0)), ((5, 28), (304, 0)), ((5, 31), (901, 0)), ((5, 36), (501, 0)), ((6, 63), (648, 0)), ((6, 68), (641, 0)), ((6, 77), (301, 0)), ((6, 84), (642, 0))]
theorem w_ml_0_0 : Cond.methodLink (csN 0) 19 (yN 8) ∈ gw := gw_in 627 (by decide +kernel) (by decide +kernel)
theorem w_ml_0_1 : Cond.methodLink (csN 0) 22 (yN 1) ∈ gw := gw_in 638 (by decide +kernel) (by decide +kernel)
theorem w_ml_0_2 : Cond.methodLink (csN 0) 34 (yN 5) ∈ gw := gw_in 643 (by decide +kernel) (by decide +kernel)
theorem w_ml_0_3 : Cond.methodLink (csN 0) 38 (yN 3) ∈ gw := gw_in 703 (by decide +kernel) (by decide +kernel)
theorem w_ml_0_4 : Cond.methodLink (csN 0) 43 (yN 4) ∈ gw := gw_in 708 (by decide +kernel) (by decide +kernel)
theorem w_ml_0_5 : Cond.methodLink (csN 0) 55 (yN 2) ∈ gw := gw_in 718 (by decide +kernel) (by decide +kernel)
theorem w_ml_0_6 : Cond.methodLink (csN 0) 60 (yN 6) ∈ gw := gw_in 647 (by decide +kernel) (by decide +kernel)
theorem w_ml_0_7 : Cond.methodLink (csN 0) 71 (yN 302) ∈ gw := gw_in 725 (by decide +kernel) (by decide +kernel)
theorem w_ml_0_8 : Cond.methodLink (csN 0) 78 (yN 301) ∈ gw := gw_in 707 (by decide +kernel) (by decide +kernel)
theorem w_ml_0_9 : Cond.methodLink (csN 0) 107 (yN 800) ∈ gw := gw_in 651 (by decide +kernel) (by decide +kernel)
theorem w_ml_0_10 : Cond.methodLink (csN 0) 111 (yN 801) ∈ gw := gw_in 661 (by decide +kernel) (by decide +kernel)
theorem w_ml_0_11 : Cond.methodLink (csN 0) 115 (yN 7) ∈ gw := gw_in 699 (by decide +kernel) (by decide +kernel)
theorem w_ml_0_12 : Cond.methodLink (csN 0) 122 (yN 9) ∈ gw := gw_in 631 (by decide +kernel) (by decide +kernel)
theorem w_ml_0_13 : Cond.methodLink (csN 0) 126 (yN 10) ∈ gw := gw_in 634 (by decide +kernel) (by decide +kernel)
theorem w_ml_0_14 : Cond.methodLink (csN 0) 129 (yN 911) ∈ gw := gw_in 637 (by decide +kernel) (by decide +kernel)
theorem w_ml_0_15 : Cond.methodLink (csN 1) 30 (yN 102) ∈ gw := gw_in 438 (by decide +kernel) (by decide +kernel)
theorem w_ml_0_16 : Cond.methodLink (csN 1) 47 (yN 103) ∈ gw := gw_in 446 (by decide +kernel) (by decide +kernel)
theorem w_ml_0_17 : Cond.methodLink (csN 1) 54 (yN 100) ∈ gw := gw_in 433 (by decide +kernel) (by decide +kernel)
theorem w_ml_0_18 : Cond.methodLink (csN 1) 61 (yN 911) ∈ gw := gw_in 455 (by decide +kernel) (by decide +kernel)
theorem w_ml_0_19 : Cond.methodLink (csN 1) 77 (yN 303) ∈ gw := gw_in 443 (by decide +kernel) (by decide +kernel)
theorem w_ml_0_20 : Cond.methodLink (csN 1) 80 (yN 305) ∈ gw := gw_in 444 (by decide +kernel) (by decide +kernel)
theorem w_ml_0_21 : Cond.methodLink (csN 1) 82 (yN 306) ∈ gw := gw_in 445 (by decide +kernel) (by decide +kernel)
theorem w_ml_0_22 : Cond.methodLink (csN 1) 84 (yN 900) ∈ gw := gw_in 450 (by decide +kernel) (by decide +kernel)
theorem w_ml_0_23 : Cond.methodLink (csN 2) 30 (yN 300) ∈ gw := gw_in 550 (by decide +kernel) (by decide +kernel)
theorem w_ml_0_24 : Cond.methodLink (csN 2) 36 (yN 101) ∈ gw := gw_in 557 (by decide +kernel) (by decide +kernel)
theorem w_ml_0_25 : Cond.methodLink (csN 2) 64 (yN 204) ∈ gw := gw_in 571 (by decide +kernel) (by decide +kernel)
theorem w_ml_0_26 : Cond.methodLink (csN 3) 71 (yN 303) ∈ gw := gw_in 384 (by decide +kernel) (by decide +kernel)
theorem w_ml_0_27 : Cond.methodLink (csN 3) 74 (yN 307) ∈ gw := gw_in 794 (by decide +kernel) (by decide +kernel)
theorem w_ml_0_28 : Cond.methodLink (csN 3) 78 (yN 911) ∈ gw := gw_in 486 (by decide +kernel) (by decide +kernel)
theorem w_ml_0_29 : Cond.methodLink (csN 3) 84 (yN 304) ∈ gw := gw_in 496 (by decide +kernel) (by decide +kernel)
theorem w_ml_0_30 : Cond.methodLink (csN 3) 87 (yN 311) ∈ gw := gw_in 505 (by decide +kernel) (by decide +kernel)
theorem w_ml_0_31 : Cond.methodLink (csN 3) 90 (yN 901) ∈ gw := gw_in 506 (by decide +kernel) (by decide +kernel)
theorem w_ml_0_32 : Cond.methodLink (csN 4) 22 (yN 930) ∈ gw := gw_in 737 (by decide +kernel) (by decide +kernel)
theorem w_ml_0_33 : Cond.methodLink (csN 5) 28 (yN 304) ∈ gw := gw_in 581 (by decide +kernel) (by decide +kernel)
theorem w_ml_0_34 : Cond.methodLink (csN 5) 31 (yN 901) ∈ gw := gw_in 590 (by decide +kernel) (by decide +kernel)
theorem w_ml_0_35 : Cond.methodLink (csN 5) 36 (yN 501) ∈ gw := gw_in 591 (by decide +kernel) (by decide +kernel)
theorem w_ml_0_36 : Cond.methodLink (csN 6) 63 (yN 648) ∈ gw := gw_in 317 (by decide +kernel) (by decide +kernel)
theorem w_ml_0_37 : Cond.methodLink (csN 6) 68 (yN 641) ∈ gw := gw_in 324 (by decide +kernel) (by decide +kernel)
theorem w_ml_0_38 : Cond.methodLink (csN 6) 77 (yN 301) ∈ gw := gw_in 329 (by decide +kernel) (by decide +kernel)
theorem w_ml_0_39 : Cond.methodLink (csN 6) 84 (yN 642) ∈ gw := gw_in 337 (by decide +kernel) (by decide +kernel)
theorem w_ml_0 : ∀ e ∈ mLk0_0, Cond.methodLink (csN e.1.1) e.1.2 (yN e.2.1) ∈ gw := by
  intro e h
  simp only [mLk0_0, List.mem_cons, List.not_mem_nil, or_false] at h
  rcases h with rfl | rfl | rfl | rfl | rfl | rfl | rfl | rfl | rfl | rfl | rfl | rfl | rfl | rfl | rfl | rfl | rfl | rfl | rfl | rfl | rfl | rfl | rfl | rfl | rfl | rfl | rfl | rfl | rfl | rfl | rfl | rfl | rfl | rfl | rfl | rfl | rfl | rfl | rfl | rfl
  · exact w_ml_0_0
  · exact w_ml_0_1
  · exact w_ml_0_2
  · exact w_ml_0_3
  · exact w_ml_0_4
  · exact w_ml_0_5
  · exact w_ml_0_6
  · exact w_ml_0_7
  · exact w_ml_0_8
  · exact w_ml_0_9
  · exact w_ml_0_10
  · exact w_ml_0_11
  · exact w_ml_0_12
  · exact w_ml_0_13
  · exact w_ml_0_14
  · exact w_ml_0_15
  · exact w_ml_0_16
  · exact w_ml_0_17
  · exact w_ml_0_18
  · exact w_ml_0_19
  · exact w_ml_0_20
  · exact w_ml_0_21
  · exact w_ml_0_22
  · exact w_ml_0_23
  · exact w_ml_0_24
  · exact w_ml_0_25
  · exact w_ml_0_26
  · exact w_ml_0_27
  · exact w_ml_0_28
  · exact w_ml_0_29
  · exact w_ml_0_30
  · exact w_ml_0_31
  · exact w_ml_0_32
  · exact w_ml_0_33
  · exact w_ml_0_34
  · exact w_ml_0_35
  · exact w_ml_0_36
  · exact w_ml_0_37
  · exact w_ml_0_38
  · exact w_ml_0_39
def mLk0_1 : List ((Nat × Nat) × Nat × Nat) := [((6, 87), (649, 0)), ((6, 103), (307, 0)), ((6, 106), (645, 0)), ((6, 109), (652, 0)), ((6, 113), (646, 0)), ((6, 119), (302, 0)), ((6, 123), (643, 0)), ((6, 141), (305, 0)), ((6, 144), (306, 0)), ((6, 148), (651, 0)), ((6, 153), (303, 0)), ((6, 156), (304, 0)), ((6, 159), (615, 0)), ((6, 171), (101, 0)), ((6, 178), (910, 0)), ((6, 183), (644, 0)), ((6, 186), (650, 0)), ((6, 189), (310, 0)), ((6, 195), (311, 0)), ((6, 198), (312, 0)), ((6, 201), (313, 0)), ((6, 204), (901, 0)), ((6, 210), (200, 0)), ((6, 213), (201, 0)), ((6, 216), (202, 0)), ((6, 221), (203, 0)), ((6, 235), (500, 0)), ((6, 238), (501, 0)), ((6, 241), (502, 0)), ((6, 244), (314, 0)), ((6, 247), (100, 0)), ((6, 257), (300, 0)), ((6, 260), (0, 0)), ((6, 264), (647, 0)), ((6, 267), (401, 0)), ((6, 272), (400, 0)), ((6, 281), (402, 0)), ((6, 288), (403, 0)), ((6, 304), (309, 0)), ((6, 307), (308, 0))]
theorem w_ml_1_0 : Cond.methodLink (csN 6) 87 (yN 649) ∈ gw := gw_in 320 (by decide +kernel) (by decide +kernel)
theorem w_ml_1_1 : Cond.methodLink (csN 6) 103 (yN 307) ∈ gw := gw_in 341 (by decide +kernel) (by decide +kernel)
theorem w_ml_1_2 : Cond.methodLink (csN 6) 106 (yN 645) ∈ gw := gw_in 352 (by decide +kernel) (by decide +kernel)
theorem w_ml_1_3 : Cond.methodLink (csN 6) 109 (yN 652) ∈ gw := gw_in 356 (by decide +kernel) (by decide +kernel)
theorem w_ml_1_4 : Cond.methodLink (csN 6) 113 (yN 646) ∈ gw := gw_in 363 (by decide +kernel) (by decide +kernel)
theorem w_ml_1_5 : Cond.methodLink (csN 6) 119 (yN 302) ∈ gw := gw_in 368 (by decide +kernel) (by decide +kernel)
theorem w_ml_1_6 : Cond.methodLink (csN 6) 123 (yN 643) ∈ gw := gw_in 376 (by decide +kernel) (by decide +kernel)
theorem w_ml_1_7 : Cond.methodLink (csN 6) 141 (yN 305) ∈ gw := gw_in 380 (by decide +kernel) (by decide +kernel)
theorem w_ml_1_8 : Cond.methodLink (csN 6) 144 (yN 306) ∈ gw := gw_in 388 (by decide +kernel) (by decide +kernel)
theorem w_ml_1_9 : Cond.methodLink (csN 6) 148 (yN 651) ∈ gw := gw_in 396 (by decide +kernel) (by decide +kernel)
theorem w_ml_1_10 : Cond.methodLink (csN 6) 153 (yN 303) ∈ gw := gw_in 408 (by decide +kernel) (by decide +kernel)
theorem w_ml_1_11 : Cond.methodLink (csN 6) 156 (yN 304) ∈ gw := gw_in 413 (by decide +kernel) (by decide +kernel)
theorem w_ml_1_12 : Cond.methodLink (csN 6) 159 (yN 615) ∈ gw := gw_in 421 (by decide +kernel) (by decide +kernel)
theorem w_ml_1_13 : Cond.methodLink (csN 6) 171 (yN 101) ∈ gw := gw_in 429 (by decide +kernel) (by decide +kernel)
theorem w_ml_1_14 : Cond.methodLink (csN 6) 178 (yN 910) ∈ gw := gw_in 462 (by decide +kernel) (by decide +kernel)
theorem w_ml_1_15 : Cond.methodLink (csN 6) 183 (yN 644) ∈ gw := gw_in 469 (by decide +kernel) (by decide +kernel)
theorem w_ml_1_16 : Cond.methodLink (csN 6) 186 (yN 650) ∈ gw := gw_in 473 (by decide +kernel) (by decide +kernel)
theorem w_ml_1_17 : Cond.methodLink (csN 6) 189 (yN 310) ∈ gw := gw_in 482 (by decide +kernel) (by decide +kernel)
theorem w_ml_1_18 : Cond.methodLink (csN 6) 195 (yN 311) ∈ gw := gw_in 492 (by decide +kernel) (by decide +kernel)
theorem w_ml_1_19 : Cond.methodLink (csN 6) 198 (yN 312) ∈ gw := gw_in 501 (by decide +kernel) (by decide +kernel)
theorem w_ml_1_20 : Cond.methodLink (csN 6) 201 (yN 313) ∈ gw := gw_in 516 (by decide +kernel) (by decide +kernel)
theorem w_ml_1_21 : Cond.methodLink (csN 6) 204 (yN 901) ∈ gw := gw_in 524 (by decide +kernel) (by decide +kernel)
theorem w_ml_1_22 : Cond.methodLink (csN 6) 210 (yN 200) ∈ gw := gw_in 538 (by decide +kernel) (by decide +kernel)
theorem w_ml_1_23 : Cond.methodLink (csN 6) 213 (yN 201) ∈ gw := gw_in 541 (by decide +kernel) (by decide +kernel)
theorem w_ml_1_24 : Cond.methodLink (csN 6) 216 (yN 202) ∈ gw := gw_in 546 (by decide +kernel) (by decide +kernel)
theorem w_ml_1_25 : Cond.methodLink (csN 6) 221 (yN 203) ∈ gw := gw_in 563 (by decide +kernel) (by decide +kernel)
theorem w_ml_1_26 : Cond.methodLink (csN 6) 235 (yN 500) ∈ gw := gw_in 576 (by decide +kernel) (by decide +kernel)
theorem w_ml_1_27 : Cond.methodLink (csN 6) 238 (yN 501) ∈ gw := gw_in 582 (by decide +kernel) (by decide +kernel)
theorem w_ml_1_28 : Cond.methodLink (csN 6) 241 (yN 502) ∈ gw := gw_in 586 (by decide +kernel) (by decide +kernel)
theorem w_ml_1_29 : Cond.methodLink (csN 6) 244 (yN 314) ∈ gw := gw_in 596 (by decide +kernel) (by decide +kernel)
theorem w_ml_1_30 : Cond.methodLink (csN 6) 247 (yN 100) ∈ gw := gw_in 609 (by decide +kernel) (by decide +kernel)
theorem w_ml_1_31 : Cond.methodLink (csN 6) 257 (yN 300) ∈ gw := gw_in 622 (by decide +kernel) (by decide +kernel)
theorem w_ml_1_32 : Cond.methodLink (csN 6) 260 (yN 0) ∈ gw := gw_in 623 (by decide +kernel) (by decide +kernel)
theorem w_ml_1_33 : Cond.methodLink (csN 6) 264 (yN 647) ∈ gw := gw_in 730 (by decide +kernel) (by decide +kernel)
theorem w_ml_1_34 : Cond.methodLink (csN 6) 267 (yN 401) ∈ gw := gw_in 733 (by decide +kernel) (by decide +kernel)
theorem w_ml_1_35 : Cond.methodLink (csN 6) 272 (yN 400) ∈ gw := gw_in 744 (by decide +kernel) (by decide +kernel)
theorem w_ml_1_36 : Cond.methodLink (csN 6) 281 (yN 402) ∈ gw := gw_in 749 (by decide +kernel) (by decide +kernel)
theorem w_ml_1_37 : Cond.methodLink (csN 6) 288 (yN 403) ∈ gw := gw_in 757 (by decide +kernel) (by decide +kernel)
theorem w_ml_1_38 : Cond.methodLink (csN 6) 304 (yN 309) ∈ gw := gw_in 786 (by decide +kernel) (by decide +kernel)
theorem w_ml_1_39 : Cond.methodLink (csN 6) 307 (yN 308) ∈ gw := gw_in 790 (by decide +kernel) (by decide +kernel)
theorem w_ml_1 : ∀ e ∈ mLk0_1, Cond.methodLink (csN e.1.1) e.1.2 (yN e.2.1) ∈ gw := by
  intro e h
  simp only [mLk0_1, List.mem_cons, List.not_mem_nil, or_false] at h
  rcases h with rfl | rfl | rfl | rfl | rfl | rfl | rfl | rfl | rfl | rfl | rfl | rfl | rfl | rfl | rfl | rfl | rfl | rfl | rfl | rfl | rfl | rfl | rfl | rfl | rfl | rfl | rfl | rfl | rfl | rfl | rfl | rfl | rfl | rfl | rfl | rfl | rfl | rfl | rfl | rfl
  · exact w_ml_1_0
  · exact w_ml_1_1
  · exact w_ml_1_2
  · exact w_ml_1_3
  · exact w_ml_1_4
  · exact w_ml_1_5
  · exact w_ml_1_6
  · exact w_ml_1_7
  · exact w_ml_1_8
  · exact w_ml_1_9
  · exact w_ml_1_10
  · exact w_ml_1_11
  · exact w_ml_1_12
  · exact w_ml_1_13
  · exact w_ml_1_14
  · exact w_ml_1_15
  · exact w_ml_1_16
  · exact w_ml_1_17
  · exact w_ml_1_18
  · exact w_ml_1_19
  · exact w_ml_1_20
  · exact w_ml_1_21
  · exact w_ml_1_22
  · exact w_ml_1_23
  · exact w_ml_1_24
  · exact w_ml_1_25
  · exact w_ml_1_26
  · exact w_ml_1_27
  · exact w_ml_1_28
  · exact w_ml_1_29
  · exact w_ml_1_30
  · exact w_ml_1_31
  · exact w_ml_1_32
  · exact w_ml_1_33
  · exact w_ml_1_34
  · exact w_ml_1_35
  · exact w_ml_1_36
  · exact w_ml_1_37
  · exact w_ml_1_38
  · exact w_ml_1_39
def mLk0_2 : List ((Nat × Nat) × Nat × Nat) := [((7, 65), (701, 0)), ((7, 69), (708, 0)), ((7, 73), (713, 0)), ((7, 77), (700, 0)), ((7, 82), (712, 0)), ((7, 86), (709, 0)), ((7, 90), (704, 0)), ((7, 93), (707, 0)), ((7, 96), (715, 0)), ((7, 99), (710, 0)), ((7, 102), (718, 0)), ((7, 106), (721, 0)), ((7, 110), (722, 0)), ((7, 113), (705, 0)), ((7, 116), (723, 0)), ((7, 119), (725, 0)), ((7, 123), (729, 0)), ((7, 126), (720, 0)), ((7, 135), (732, 0)), ((7, 138), (702, 0)), ((7, 142), (733, 0)), ((7, 146), (706, 0)), ((7, 150), (738, 0)), ((7, 153), (741, 0)), ((7, 156), (742, 0)), ((7, 159), (711, 0)), ((7, 162), (744, 0)), ((7, 165), (746, 0)), ((7, 169), (703, 0)), ((7, 173), (751, 0)), ((7, 177), (754, 0)), ((7, 180), (756, 0)), ((7, 183), (757, 0)), ((7, 186), (760, 0)), ((7, 198), (764, 0)), ((7, 207), (765, 0)), ((7, 215), (766, 0)), ((7, 218), (767, 0)), ((7, 221), (769, 0)), ((7, 224), (768, 0))]
theorem w_ml_2_0 : Cond.methodLink (csN 7) 65 (yN 701) ∈ gw := gw_in 892 (by decide +kernel) (by decide +kernel)
theorem w_ml_2_1 : Cond.methodLink (csN 7) 69 (yN 708) ∈ gw := gw_in 905 (by decide +kernel) (by decide +kernel)
theorem w_ml_2_2 : Cond.methodLink (csN 7) 73 (yN 713) ∈ gw := gw_in 889 (by decide +kernel) (by decide +kernel)
theorem w_ml_2_3 : Cond.methodLink (csN 7) 77 (yN 700) ∈ gw := gw_in 896 (by decide +kernel) (by decide +kernel)
theorem w_ml_2_4 : Cond.methodLink (csN 7) 82 (yN 712) ∈ gw := gw_in 901 (by decide +kernel) (by decide +kernel)
theorem w_ml_2_5 : Cond.methodLink (csN 7) 86 (yN 709) ∈ gw := gw_in 925 (by decide +kernel) (by decide +kernel)
theorem w_ml_2_6 : Cond.methodLink (csN 7) 90 (yN 704) ∈ gw := gw_in 913 (by decide +kernel) (by decide +kernel)
theorem w_ml_2_7 : Cond.methodLink (csN 7) 93 (yN 707) ∈ gw := gw_in 917 (by decide +kernel) (by decide +kernel)
theorem w_ml_2_8 : Cond.methodLink (csN 7) 96 (yN 715) ∈ gw := gw_in 921 (by decide +kernel) (by decide +kernel)
theorem w_ml_2_9 : Cond.methodLink (csN 7) 99 (yN 710) ∈ gw := gw_in 933 (by decide +kernel) (by decide +kernel)
theorem w_ml_2_10 : Cond.methodLink (csN 7) 102 (yN 718) ∈ gw := gw_in 941 (by decide +kernel) (by decide +kernel)
theorem w_ml_2_11 : Cond.methodLink (csN 7) 106 (yN 721) ∈ gw := gw_in 957 (by decide +kernel) (by decide +kernel)
theorem w_ml_2_12 : Cond.methodLink (csN 7) 110 (yN 722) ∈ gw := gw_in 953 (by decide +kernel) (by decide +kernel)
theorem w_ml_2_13 : Cond.methodLink (csN 7) 113 (yN 705) ∈ gw := gw_in 949 (by decide +kernel) (by decide +kernel)
theorem w_ml_2_14 : Cond.methodLink (csN 7) 116 (yN 723) ∈ gw := gw_in 961 (by decide +kernel) (by decide +kernel)
theorem w_ml_2_15 : Cond.methodLink (csN 7) 119 (yN 725) ∈ gw := gw_in 969 (by decide +kernel) (by decide +kernel)
theorem w_ml_2_16 : Cond.methodLink (csN 7) 123 (yN 729) ∈ gw := gw_in 985 (by decide +kernel) (by decide +kernel)
theorem w_ml_2_17 : Cond.methodLink (csN 7) 126 (yN 720) ∈ gw := gw_in 1001 (by decide +kernel) (by decide +kernel)
theorem w_ml_2_18 : Cond.methodLink (csN 7) 135 (yN 732) ∈ gw := gw_in 1005 (by decide +kernel) (by decide +kernel)
theorem w_ml_2_19 : Cond.methodLink (csN 7) 138 (yN 702) ∈ gw := gw_in 1009 (by decide +kernel) (by decide +kernel)
theorem w_ml_2_20 : Cond.methodLink (csN 7) 142 (yN 733) ∈ gw := gw_in 997 (by decide +kernel) (by decide +kernel)
theorem w_ml_2_21 : Cond.methodLink (csN 7) 146 (yN 706) ∈ gw := gw_in 1020 (by decide +kernel) (by decide +kernel)
theorem w_ml_2_22 : Cond.methodLink (csN 7) 150 (yN 738) ∈ gw := gw_in 1031 (by decide +kernel) (by decide +kernel)
theorem w_ml_2_23 : Cond.methodLink (csN 7) 153 (yN 741) ∈ gw := gw_in 1047 (by decide +kernel) (by decide +kernel)
theorem w_ml_2_24 : Cond.methodLink (csN 7) 156 (yN 742) ∈ gw := gw_in 1043 (by decide +kernel) (by decide +kernel)
theorem w_ml_2_25 : Cond.methodLink (csN 7) 159 (yN 711) ∈ gw := gw_in 1059 (by decide +kernel) (by decide +kernel)
theorem w_ml_2_26 : Cond.methodLink (csN 7) 162 (yN 744) ∈ gw := gw_in 1055 (by decide +kernel) (by decide +kernel)
theorem w_ml_2_27 : Cond.methodLink (csN 7) 165 (yN 746) ∈ gw := gw_in 1066 (by decide +kernel) (by decide +kernel)
theorem w_ml_2_28 : Cond.methodLink (csN 7) 169 (yN 703) ∈ gw := gw_in 1091 (by decide +kernel) (by decide +kernel)
theorem w_ml_2_29 : Cond.methodLink (csN 7) 173 (yN 751) ∈ gw := gw_in 1087 (by decide +kernel) (by decide +kernel)
theorem w_ml_2_30 : Cond.methodLink (csN 7) 177 (yN 754) ∈ gw := gw_in 1099 (by decide +kernel) (by decide +kernel)
theorem w_ml_2_31 : Cond.methodLink (csN 7) 180 (yN 756) ∈ gw := gw_in 1107 (by decide +kernel) (by decide +kernel)
theorem w_ml_2_32 : Cond.methodLink (csN 7) 183 (yN 757) ∈ gw := gw_in 1115 (by decide +kernel) (by decide +kernel)
theorem w_ml_2_33 : Cond.methodLink (csN 7) 186 (yN 760) ∈ gw := gw_in 1127 (by decide +kernel) (by decide +kernel)
theorem w_ml_2_34 : Cond.methodLink (csN 7) 198 (yN 764) ∈ gw := gw_in 1147 (by decide +kernel) (by decide +kernel)
theorem w_ml_2_35 : Cond.methodLink (csN 7) 207 (yN 765) ∈ gw := gw_in 1151 (by decide +kernel) (by decide +kernel)
theorem w_ml_2_36 : Cond.methodLink (csN 7) 215 (yN 766) ∈ gw := gw_in 1143 (by decide +kernel) (by decide +kernel)
theorem w_ml_2_37 : Cond.methodLink (csN 7) 218 (yN 767) ∈ gw := gw_in 1175 (by decide +kernel) (by decide +kernel)
theorem w_ml_2_38 : Cond.methodLink (csN 7) 221 (yN 769) ∈ gw := gw_in 1167 (by decide +kernel) (by decide +kernel)
theorem w_ml_2_39 : Cond.methodLink (csN 7) 224 (yN 768) ∈ gw := gw_in 1163 (by decide +kernel) (by decide +kernel)
theorem w_ml_2 : ∀ e ∈ mLk0_2, Cond.methodLink (csN e.1.1) e.1.2 (yN e.2.1) ∈ gw := by
  intro e h
  simp only [mLk0_2, List.mem_cons, List.not_mem_nil, or_false] at h
  rcases h with rfl | rfl | rfl | rfl | rfl | rfl | rfl | rfl | rfl | rfl | rfl | rfl | rfl | rfl | rfl | rfl | rfl | rfl | rfl | rfl | rfl | rfl | rfl | rfl | rfl | rfl | rfl | rfl | rfl | rfl | rfl | rfl | rfl | rfl | rfl | rfl | rfl | rfl | rfl | rfl
  · exact w_ml_2_0
  · exact w_ml_2_1
  · exact w_ml_2_2
  · exact w_ml_2_3
  · exact w_ml_2_4
  · exact w_ml_2_5
  · exact w_ml_2_6
  · exact w_ml_2_7
  · exact w_ml_2_8
  · exact w_ml_2_9
  · exact w_ml_2_10
  · exact w_ml_2_11
  · exact w_ml_2_12
  · exact w_ml_2_13
  · exact w_ml_2_14
  · exact w_ml_2_15
  · exact w_ml_2_16
  · exact w_ml_2_17
  · exact w_ml_2_18
  · exact w_ml_2_19
  · exact w_ml_2_20
  · exact w_ml_2_21
  · exact w_ml_2_22
  · exact w_ml_2_23
  · exact w_ml_2_24
  · exact w_ml_2_25
  · exact w_ml_2_26
  · exact w_ml_2_27
  · exact w_ml_2_28
  · exact w_ml_2_29
  · exact w_ml_2_30
  · exact w_ml_2_31
  · exact w_ml_2_32
  · exact w_ml_2_33
  · exact w_ml_2_34
  · exact w_ml_2_35
  · exact w_ml_2_36
  · exact w_ml_2_37
  · exact w_ml_2_38
  · exact w_ml_2_39
def mLk0_3 : List ((Nat × Nat) × Nat × Nat) := [((7, 227), (770, 0)), ((7, 231), (771, 0)), ((7, 234), (772, 0)), ((7, 237), (773, 0)), ((7, 240), (775, 0)), ((7, 244), (778, 0)), ((7, 250), (785, 0)), ((7, 253), (786, 0)), ((8, 335), (802, 0)), ((8, 492), (803, 0)), ((8, 495), (920, 0)), ((8, 1059), (940, 0)), ((10, 13), (600, 0)), ((10, 17), (714, 0)), ((10, 18), (601, 0)), ((10, 22), (716, 0)), ((10, 23), (602, 0)), ((10, 27), (717, 0)), ((10, 28), (603, 0)), ((10, 32), (719, 0)), ((10, 33), (604, 0)), ((10, 36), (724, 0)), ((10, 37), (605, 0)), ((10, 40), (726, 0)), ((10, 41), (606, 0)), ((10, 44), (727, 0)), ((10, 45), (607, 0)), ((10, 48), (728, 0)), ((10, 49), (608, 0)), ((10, 53), (730, 0)), ((10, 54), (609, 0)), ((10, 57), (731, 0)), ((10, 58), (610, 0)), ((10, 61), (734, 0)), ((10, 62), (611, 0)), ((10, 65), (735, 0)), ((10, 66), (612, 0)), ((10, 69), (736, 0)), ((10, 70), (613, 0)), ((10, 74), (737, 0))]
theorem w_ml_3_0 : Cond.methodLink (csN 7) 227 (yN 770) ∈ gw := gw_in 1171 (by decide +kernel) (by decide +kernel)
theorem w_ml_3_1 : Cond.methodLink (csN 7) 231 (yN 771) ∈ gw := gw_in 1159 (by decide +kernel) (by decide +kernel)
theorem w_ml_3_2 : Cond.methodLink (csN 7) 234 (yN 772) ∈ gw := gw_in 1179 (by decide +kernel) (by decide +kernel)
theorem w_ml_3_3 : Cond.methodLink (csN 7) 237 (yN 773) ∈ gw := gw_in 1155 (by decide +kernel) (by decide +kernel)
theorem w_ml_3_4 : Cond.methodLink (csN 7) 240 (yN 775) ∈ gw := gw_in 1187 (by decide +kernel) (by decide +kernel)
theorem w_ml_3_5 : Cond.methodLink (csN 7) 244 (yN 778) ∈ gw := gw_in 1199 (by decide +kernel) (by decide +kernel)
theorem w_ml_3_6 : Cond.methodLink (csN 7) 250 (yN 785) ∈ gw := gw_in 1227 (by decide +kernel) (by decide +kernel)
theorem w_ml_3_7 : Cond.methodLink (csN 7) 253 (yN 786) ∈ gw := gw_in 1231 (by decide +kernel) (by decide +kernel)
theorem w_ml_3_8 : Cond.methodLink (csN 8) 335 (yN 802) ∈ gw := gw_in 655 (by decide +kernel) (by decide +kernel)
theorem w_ml_3_9 : Cond.methodLink (csN 8) 492 (yN 803) ∈ gw := gw_in 665 (by decide +kernel) (by decide +kernel)
theorem w_ml_3_10 : Cond.methodLink (csN 8) 495 (yN 920) ∈ gw := gw_in 669 (by decide +kernel) (by decide +kernel)
theorem w_ml_3_11 : Cond.methodLink (csN 8) 1059 (yN 940) ∈ gw := gw_in 677 (by decide +kernel) (by decide +kernel)
theorem w_ml_3_12 : Cond.methodLink (csN 10) 13 (yN 600) ∈ gw := gw_in 313 (by decide +kernel) (by decide +kernel)
theorem w_ml_3_13 : Cond.methodLink (csN 10) 17 (yN 714) ∈ gw := gw_in 885 (by decide +kernel) (by decide +kernel)
theorem w_ml_3_14 : Cond.methodLink (csN 10) 18 (yN 601) ∈ gw := gw_in 333 (by decide +kernel) (by decide +kernel)
theorem w_ml_3_15 : Cond.methodLink (csN 10) 22 (yN 716) ∈ gw := gw_in 909 (by decide +kernel) (by decide +kernel)
theorem w_ml_3_16 : Cond.methodLink (csN 10) 23 (yN 602) ∈ gw := gw_in 348 (by decide +kernel) (by decide +kernel)
theorem w_ml_3_17 : Cond.methodLink (csN 10) 27 (yN 717) ∈ gw := gw_in 929 (by decide +kernel) (by decide +kernel)
theorem w_ml_3_18 : Cond.methodLink (csN 10) 28 (yN 603) ∈ gw := gw_in 359 (by decide +kernel) (by decide +kernel)
theorem w_ml_3_19 : Cond.methodLink (csN 10) 32 (yN 719) ∈ gw := gw_in 937 (by decide +kernel) (by decide +kernel)
theorem w_ml_3_20 : Cond.methodLink (csN 10) 33 (yN 604) ∈ gw := gw_in 372 (by decide +kernel) (by decide +kernel)
theorem w_ml_3_21 : Cond.methodLink (csN 10) 36 (yN 724) ∈ gw := gw_in 945 (by decide +kernel) (by decide +kernel)
theorem w_ml_3_22 : Cond.methodLink (csN 10) 37 (yN 605) ∈ gw := gw_in 392 (by decide +kernel) (by decide +kernel)
theorem w_ml_3_23 : Cond.methodLink (csN 10) 40 (yN 726) ∈ gw := gw_in 965 (by decide +kernel) (by decide +kernel)
theorem w_ml_3_24 : Cond.methodLink (csN 10) 41 (yN 606) ∈ gw := gw_in 400 (by decide +kernel) (by decide +kernel)
theorem w_ml_3_25 : Cond.methodLink (csN 10) 44 (yN 727) ∈ gw := gw_in 973 (by decide +kernel) (by decide +kernel)
theorem w_ml_3_26 : Cond.methodLink (csN 10) 45 (yN 607) ∈ gw := gw_in 404 (by decide +kernel) (by decide +kernel)
theorem w_ml_3_27 : Cond.methodLink (csN 10) 48 (yN 728) ∈ gw := gw_in 977 (by decide +kernel) (by decide +kernel)
theorem w_ml_3_28 : Cond.methodLink (csN 10) 49 (yN 608) ∈ gw := gw_in 409 (by decide +kernel) (by decide +kernel)
theorem w_ml_3_29 : Cond.methodLink (csN 10) 53 (yN 730) ∈ gw := gw_in 981 (by decide +kernel) (by decide +kernel)
theorem w_ml_3_30 : Cond.methodLink (csN 10) 54 (yN 609) ∈ gw := gw_in 417 (by decide +kernel) (by decide +kernel)
theorem w_ml_3_31 : Cond.methodLink (csN 10) 57 (yN 731) ∈ gw := gw_in 989 (by decide +kernel) (by decide +kernel)
theorem w_ml_3_32 : Cond.methodLink (csN 10) 58 (yN 610) ∈ gw := gw_in 425 (by decide +kernel) (by decide +kernel)
theorem w_ml_3_33 : Cond.methodLink (csN 10) 61 (yN 734) ∈ gw := gw_in 993 (by decide +kernel) (by decide +kernel)
theorem w_ml_3_34 : Cond.methodLink (csN 10) 62 (yN 611) ∈ gw := gw_in 458 (by decide +kernel) (by decide +kernel)
theorem w_ml_3_35 : Cond.methodLink (csN 10) 65 (yN 735) ∈ gw := gw_in 1012 (by decide +kernel) (by decide +kernel)
theorem w_ml_3_36 : Cond.methodLink (csN 10) 66 (yN 612) ∈ gw := gw_in 465 (by decide +kernel) (by decide +kernel)
theorem w_ml_3_37 : Cond.methodLink (csN 10) 69 (yN 736) ∈ gw := gw_in 1016 (by decide +kernel) (by decide +kernel)
theorem w_ml_3_38 : Cond.methodLink (csN 10) 70 (yN 613) ∈ gw := gw_in 474 (by decide +kernel) (by decide +kernel)
theorem w_ml_3_39 : Cond.methodLink (csN 10) 74 (yN 737) ∈ gw := gw_in 1023 (by decide +kernel) (by decide +kernel)
theorem w_ml_3 : ∀ e ∈ mLk0_3, Cond.methodLink (csN e.1.1) e.1.2 (yN e.2.1) ∈ gw := by
  intro e h
  simp only [mLk0_3, List.mem_cons, List.not_mem_nil, or_false] at h
  rcases h with rfl | rfl | rfl | rfl | rfl | rfl | rfl | rfl | rfl | rfl | rfl | rfl | rfl | rfl | rfl | rfl | rfl | rfl | rfl | rfl | rfl | rfl | rfl | rfl | rfl | rfl | rfl | rfl | rfl | rfl | rfl | rfl | rfl | rfl | rfl | rfl | rfl | rfl | rfl | rfl
  · exact w_ml_3_0
  · exact w_ml_3_1
  · exact w_ml_3_2
  · exact w_ml_3_3
  · exact w_ml_3_4
  · exact w_ml_3_5
  · exact w_ml_3_6
  · exact w_ml_3_7
  · exact w_ml_3_8
  · exact w_ml_3_9
  · exact w_ml_3_10
  · exact w_ml_3_11
  · exact w_ml_3_12
  · exact w_ml_3_13
  · exact w_ml_3_14
  · exact w_ml_3_15
  · exact w_ml_3_16
  · exact w_ml_3_17
  · exact w_ml_3_18
  · exact w_ml_3_19
  · exact w_ml_3_20
  · exact w_ml_3_21
  · exact w_ml_3_22
  · exact w_ml_3_23
  · exact w_ml_3_24
  · exact w_ml_3_25
  · exact w_ml_3_26
  · exact w_ml_3_27
  · exact w_ml_3_28
  · exact w_ml_3_29
  · exact w_ml_3_30
  · exact w_ml_3_31
  · exact w_ml_3_32
  · exact w_ml_3_33
  · exact w_ml_3_34
  · exact w_ml_3_35
  · exact w_ml_3_36
  · exact w_ml_3_37
  · exact w_ml_3_38
  · exact w_ml_3_39
def mLk0_4 : List ((Nat × Nat) × Nat × Nat) := [((10, 75), (614, 0)), ((10, 78), (739, 0)), ((10, 79), (615, 0)), ((10, 82), (740, 0)), ((10, 83), (616, 0)), ((10, 86), (743, 0)), ((10, 87), (617, 0)), ((10, 90), (745, 0)), ((10, 91), (618, 0)), ((10, 94), (747, 0)), ((10, 95), (619, 0)), ((10, 99), (748, 0)), ((10, 100), (620, 0)), ((10, 103), (749, 0)), ((10, 104), (621, 0)), ((10, 107), (750, 0)), ((10, 108), (622, 0)), ((10, 111), (752, 0)), ((10, 112), (623, 0)), ((10, 115), (753, 0)), ((10, 116), (624, 0)), ((10, 119), (755, 0)), ((10, 120), (625, 0)), ((10, 123), (758, 0)), ((10, 124), (626, 0)), ((10, 127), (759, 0)), ((10, 128), (627, 0)), ((10, 131), (761, 0)), ((10, 132), (628, 0)), ((10, 135), (762, 0)), ((10, 136), (629, 0)), ((10, 139), (763, 0)), ((10, 140), (630, 0)), ((10, 143), (774, 0)), ((10, 144), (631, 0)), ((10, 147), (776, 0)), ((10, 150), (632, 0)), ((10, 154), (777, 0)), ((10, 155), (633, 0)), ((10, 158), (779, 0))]
theorem w_ml_4_0 : Cond.methodLink (csN 10) 75 (yN 614) ∈ gw := gw_in 478 (by decide +kernel) (by decide +kernel)
theorem w_ml_4_1 : Cond.methodLink (csN 10) 78 (yN 739) ∈ gw := gw_in 1027 (by decide +kernel) (by decide +kernel)
theorem w_ml_4_2 : Cond.methodLink (csN 10) 79 (yN 615) ∈ gw := gw_in 487 (by decide +kernel) (by decide +kernel)
theorem w_ml_4_3 : Cond.methodLink (csN 10) 82 (yN 740) ∈ gw := gw_in 1035 (by decide +kernel) (by decide +kernel)
theorem w_ml_4_4 : Cond.methodLink (csN 10) 83 (yN 616) ∈ gw := gw_in 488 (by decide +kernel) (by decide +kernel)
theorem w_ml_4_5 : Cond.methodLink (csN 10) 86 (yN 743) ∈ gw := gw_in 1039 (by decide +kernel) (by decide +kernel)
theorem w_ml_4_6 : Cond.methodLink (csN 10) 87 (yN 617) ∈ gw := gw_in 497 (by decide +kernel) (by decide +kernel)
theorem w_ml_4_7 : Cond.methodLink (csN 10) 90 (yN 745) ∈ gw := gw_in 1051 (by decide +kernel) (by decide +kernel)
theorem w_ml_4_8 : Cond.methodLink (csN 10) 91 (yN 618) ∈ gw := gw_in 512 (by decide +kernel) (by decide +kernel)
theorem w_ml_4_9 : Cond.methodLink (csN 10) 94 (yN 747) ∈ gw := gw_in 1062 (by decide +kernel) (by decide +kernel)
theorem w_ml_4_10 : Cond.methodLink (csN 10) 95 (yN 619) ∈ gw := gw_in 520 (by decide +kernel) (by decide +kernel)
theorem w_ml_4_11 : Cond.methodLink (csN 10) 99 (yN 748) ∈ gw := gw_in 1070 (by decide +kernel) (by decide +kernel)
theorem w_ml_4_12 : Cond.methodLink (csN 10) 100 (yN 620) ∈ gw := gw_in 525 (by decide +kernel) (by decide +kernel)
theorem w_ml_4_13 : Cond.methodLink (csN 10) 103 (yN 749) ∈ gw := gw_in 1074 (by decide +kernel) (by decide +kernel)
theorem w_ml_4_14 : Cond.methodLink (csN 10) 104 (yN 621) ∈ gw := gw_in 530 (by decide +kernel) (by decide +kernel)
theorem w_ml_4_15 : Cond.methodLink (csN 10) 107 (yN 750) ∈ gw := gw_in 1079 (by decide +kernel) (by decide +kernel)
theorem w_ml_4_16 : Cond.methodLink (csN 10) 108 (yN 622) ∈ gw := gw_in 534 (by decide +kernel) (by decide +kernel)
theorem w_ml_4_17 : Cond.methodLink (csN 10) 111 (yN 752) ∈ gw := gw_in 1083 (by decide +kernel) (by decide +kernel)
theorem w_ml_4_18 : Cond.methodLink (csN 10) 112 (yN 623) ∈ gw := gw_in 558 (by decide +kernel) (by decide +kernel)
theorem w_ml_4_19 : Cond.methodLink (csN 10) 115 (yN 753) ∈ gw := gw_in 1094 (by decide +kernel) (by decide +kernel)
theorem w_ml_4_20 : Cond.methodLink (csN 10) 116 (yN 624) ∈ gw := gw_in 572 (by decide +kernel) (by decide +kernel)
theorem w_ml_4_21 : Cond.methodLink (csN 10) 119 (yN 755) ∈ gw := gw_in 1103 (by decide +kernel) (by decide +kernel)
theorem w_ml_4_22 : Cond.methodLink (csN 10) 120 (yN 625) ∈ gw := gw_in 592 (by decide +kernel) (by decide +kernel)
theorem w_ml_4_23 : Cond.methodLink (csN 10) 123 (yN 758) ∈ gw := gw_in 1111 (by decide +kernel) (by decide +kernel)
theorem w_ml_4_24 : Cond.methodLink (csN 10) 124 (yN 626) ∈ gw := gw_in 601 (by decide +kernel) (by decide +kernel)
theorem w_ml_4_25 : Cond.methodLink (csN 10) 127 (yN 759) ∈ gw := gw_in 1119 (by decide +kernel) (by decide +kernel)
theorem w_ml_4_26 : Cond.methodLink (csN 10) 128 (yN 627) ∈ gw := gw_in 605 (by decide +kernel) (by decide +kernel)
theorem w_ml_4_27 : Cond.methodLink (csN 10) 131 (yN 761) ∈ gw := gw_in 1123 (by decide +kernel) (by decide +kernel)
theorem w_ml_4_28 : Cond.methodLink (csN 10) 132 (yN 628) ∈ gw := gw_in 610 (by decide +kernel) (by decide +kernel)
theorem w_ml_4_29 : Cond.methodLink (csN 10) 135 (yN 762) ∈ gw := gw_in 1131 (by decide +kernel) (by decide +kernel)
theorem w_ml_4_30 : Cond.methodLink (csN 10) 136 (yN 629) ∈ gw := gw_in 614 (by decide +kernel) (by decide +kernel)
theorem w_ml_4_31 : Cond.methodLink (csN 10) 139 (yN 763) ∈ gw := gw_in 1135 (by decide +kernel) (by decide +kernel)
theorem w_ml_4_32 : Cond.methodLink (csN 10) 140 (yN 630) ∈ gw := gw_in 618 (by decide +kernel) (by decide +kernel)
theorem w_ml_4_33 : Cond.methodLink (csN 10) 143 (yN 774) ∈ gw := gw_in 1139 (by decide +kernel) (by decide +kernel)
theorem w_ml_4_34 : Cond.methodLink (csN 10) 144 (yN 631) ∈ gw := gw_in 726 (by decide +kernel) (by decide +kernel)
theorem w_ml_4_35 : Cond.methodLink (csN 10) 147 (yN 776) ∈ gw := gw_in 1183 (by decide +kernel) (by decide +kernel)
theorem w_ml_4_36 : Cond.methodLink (csN 10) 150 (yN 632) ∈ gw := gw_in 740 (by decide +kernel) (by decide +kernel)
theorem w_ml_4_37 : Cond.methodLink (csN 10) 154 (yN 777) ∈ gw := gw_in 1190 (by decide +kernel) (by decide +kernel)
theorem w_ml_4_38 : Cond.methodLink (csN 10) 155 (yN 633) ∈ gw := gw_in 753 (by decide +kernel) (by decide +kernel)
theorem w_ml_4_39 : Cond.methodLink (csN 10) 158 (yN 779) ∈ gw := gw_in 1195 (by decide +kernel) (by decide +kernel)
theorem w_ml_4 : ∀ e ∈ mLk0_4, Cond.methodLink (csN e.1.1) e.1.2 (yN e.2.1) ∈ gw := by
  intro e h
  simp only [mLk0_4, List.mem_cons, List.not_mem_nil, or_false] at h
  rcases h with rfl | rfl | rfl | rfl | rfl | rfl | rfl | rfl | rfl | rfl | rfl | rfl | rfl | rfl | rfl | rfl | rfl | rfl | rfl | rfl | rfl | rfl | rfl | rfl | rfl | rfl | rfl | rfl | rfl | rfl | rfl | rfl | rfl | rfl | rfl | rfl | rfl | rfl | rfl | rfl
  · exact w_ml_4_0
  · exact w_ml_4_1
  · exact w_ml_4_2
  · exact w_ml_4_3
  · exact w_ml_4_4
  · exact w_ml_4_5
  · exact w_ml_4_6
  · exact w_ml_4_7
  · exact w_ml_4_8
  · exact w_ml_4_9
  · exact w_ml_4_10
  · exact w_ml_4_11
  · exact w_ml_4_12
  · exact w_ml_4_13
  · exact w_ml_4_14
  · exact w_ml_4_15
  · exact w_ml_4_16
  · exact w_ml_4_17
  · exact w_ml_4_18
  · exact w_ml_4_19
  · exact w_ml_4_20
  · exact w_ml_4_21
  · exact w_ml_4_22
  · exact w_ml_4_23
  · exact w_ml_4_24
  · exact w_ml_4_25
  · exact w_ml_4_26
  · exact w_ml_4_27
  · exact w_ml_4_28
  · exact w_ml_4_29
  · exact w_ml_4_30
  · exact w_ml_4_31
  · exact w_ml_4_32
  · exact w_ml_4_33
  · exact w_ml_4_34
  · exact w_ml_4_35
  · exact w_ml_4_36
  · exact w_ml_4_37
  · exact w_ml_4_38
  · exact w_ml_4_39
def mLk0_5 : List ((Nat × Nat) × Nat × Nat) := [((10, 159), (634, 0)), ((10, 162), (780, 0)), ((10, 163), (635, 0)), ((10, 166), (781, 0)), ((10, 167), (636, 0)), ((10, 170), (782, 0)), ((10, 171), (637, 0)), ((10, 174), (783, 0)), ((10, 175), (638, 0)), ((10, 178), (784, 0)), ((10, 179), (639, 0)), ((10, 182), (787, 0)), ((10, 183), (640, 0)), ((10, 186), (788, 0)), ((920, 9), (804, 0))]
theorem w_ml_5_0 : Cond.methodLink (csN 10) 159 (yN 634) ∈ gw := gw_in 762 (by decide +kernel) (by decide +kernel)
theorem w_ml_5_1 : Cond.methodLink (csN 10) 162 (yN 780) ∈ gw := gw_in 1203 (by decide +kernel) (by decide +kernel)
theorem w_ml_5_2 : Cond.methodLink (csN 10) 163 (yN 635) ∈ gw := gw_in 766 (by decide +kernel) (by decide +kernel)
theorem w_ml_5_3 : Cond.methodLink (csN 10) 166 (yN 781) ∈ gw := gw_in 1207 (by decide +kernel) (by decide +kernel)
theorem w_ml_5_4 : Cond.methodLink (csN 10) 167 (yN 636) ∈ gw := gw_in 770 (by decide +kernel) (by decide +kernel)
theorem w_ml_5_5 : Cond.methodLink (csN 10) 170 (yN 782) ∈ gw := gw_in 1211 (by decide +kernel) (by decide +kernel)
theorem w_ml_5_6 : Cond.methodLink (csN 10) 171 (yN 637) ∈ gw := gw_in 774 (by decide +kernel) (by decide +kernel)
theorem w_ml_5_7 : Cond.methodLink (csN 10) 174 (yN 783) ∈ gw := gw_in 1215 (by decide +kernel) (by decide +kernel)
theorem w_ml_5_8 : Cond.methodLink (csN 10) 175 (yN 638) ∈ gw := gw_in 778 (by decide +kernel) (by decide +kernel)
theorem w_ml_5_9 : Cond.methodLink (csN 10) 178 (yN 784) ∈ gw := gw_in 1219 (by decide +kernel) (by decide +kernel)
theorem w_ml_5_10 : Cond.methodLink (csN 10) 179 (yN 639) ∈ gw := gw_in 782 (by decide +kernel) (by decide +kernel)
theorem w_ml_5_11 : Cond.methodLink (csN 10) 182 (yN 787) ∈ gw := gw_in 1223 (by decide +kernel) (by decide +kernel)
theorem w_ml_5_12 : Cond.methodLink (csN 10) 183 (yN 640) ∈ gw := gw_in 795 (by decide +kernel) (by decide +kernel)
theorem w_ml_5_13 : Cond.methodLink (csN 10) 186 (yN 788) ∈ gw := gw_in 1235 (by decide +kernel) (by decide +kernel)
theorem w_ml_5_14 : Cond.methodLink (csN 920) 9 (yN 804) ∈ gw := gw_in 672 (by decide +kernel) (by decide +kernel)
theorem w_ml_5 : ∀ e ∈ mLk0_5, Cond.methodLink (csN e.1.1) e.1.2 (yN e.2.1) ∈ gw := by
  intro e h
  simp only [mLk0_5, List.mem_cons, List.not_mem_nil, or_false] at h
  rcases h with rfl | rfl | rfl | rfl | rfl | rfl | rfl | rfl | rfl | rfl | rfl | rfl | rfl | rfl | rfl
  · exact w_ml_5_0
  · exact w_ml_5_1
  · exact w_ml_5_2
  · exact w_ml_5_3
  · exact w_ml_5_4
  · exact w_ml_5_5
  · exact w_ml_5_6
  · exact w_ml_5_7
  · exact w_ml_5_8
  · exact w_ml_5_9
  · exact w_ml_5_10
  · exact w_ml_5_11
  · exact w_ml_5_12
  · exact w_ml_5_13
  · exact w_ml_5_14
def mLk0 : List ((Nat × Nat) × Nat × Nat) := mLk0_0 ++ mLk0_1 ++ mLk0_2 ++ mLk0_3 ++ mLk0_4 ++ mLk0_5
theorem w_ml : ∀ e ∈ mLk0, Cond.methodLink (csN e.1.1) e.1.2 (yN e.2.1) ∈ gw := (List.forall_mem_append.mpr ⟨(List.forall_mem_append.mpr ⟨(List.forall_mem_append.mpr ⟨(List.forall_mem_append.mpr ⟨(List.forall_mem_append.mpr ⟨w_ml_0, w_ml_1⟩), w_ml_2⟩), w_ml_3⟩), w_ml_4⟩), w_ml_5⟩)
def mLk1 : List ((Nat × Nat) × Nat × Nat) := [((0, 103), (649, 1)), ((1, 26), (652, 1)), ((1, 73), (651, 1)), ((1, 89), (650, 1)), ((2, 26), (650, 1)), ((3, 67), (650, 1)), ((3, 95), (652, 1)), ((5, 24), (650, 1)), ((6, 225), (204, 1))]
theorem w_mn_0 : Cond.methodLinkNest (csN 0) 103 (yN 649) "FortyReports" ∈ lw_tbl := List.mem_of_getElem? (i := 712) (by decide +kernel)
theorem w_mn_1 : Cond.methodLinkNest (csN 1) 26 (yN 652) "FortyReports" ∈ lw_tbl := List.mem_of_getElem? (i := 437) (by decide +kernel)
theorem w_mn_2 : Cond.methodLinkNest (csN 1) 73 (yN 651) "FortyReports" ∈ lw_tbl := List.mem_of_getElem? (i := 442) (by decide +kernel)
theorem w_mn_3 : Cond.methodLinkNest (csN 1) 89 (yN 650) "FortyReports" ∈ lw_tbl := List.mem_of_getElem? (i := 454) (by decide +kernel)
theorem w_mn_4 : Cond.methodLinkNest (csN 2) 26 (yN 650) "FortyReports" ∈ lw_tbl := List.mem_of_getElem? (i := 545) (by decide +kernel)
theorem w_mn_5 : Cond.methodLinkNest (csN 3) 67 (yN 650) "FortyReports" ∈ lw_tbl := List.mem_of_getElem? (i := 345) (by decide +kernel)
theorem w_mn_6 : Cond.methodLinkNest (csN 3) 95 (yN 652) "FortyReports" ∈ lw_tbl := List.mem_of_getElem? (i := 600) (by decide +kernel)
theorem w_mn_7 : Cond.methodLinkNest (csN 5) 24 (yN 650) "FortyReports" ∈ lw_tbl := List.mem_of_getElem? (i := 580) (by decide +kernel)
theorem w_mn_8 : Cond.methodLinkNest (csN 6) 225 (yN 204) "FortyReports" ∈ lw_tbl := List.mem_of_getElem? (i := 567) (by decide +kernel)
theorem w_mn : ∀ e ∈ mLk1, Cond.methodLinkNest (csN e.1.1) e.1.2 (yN e.2.1) "FortyReports" ∈ lw_tbl := by
  intro e h
  simp only [mLk1, List.mem_cons, List.not_mem_nil, or_false] at h
  rcases h with rfl | rfl | rfl | rfl | rfl | rfl | rfl | rfl | rfl
  · exact w_mn_0
  · exact w_mn_1
  · exact w_mn_2
  · exact w_mn_3
  · exact w_mn_4
  · exact w_mn_5
  · exact w_mn_6
  · exact w_mn_7
  · exact w_mn_8
theorem w_il_0 : Cond.constant (csN 6) 67 (Int32.ofInt (-1000000001)) ∈ gw := gw_in 323 (by decide +kernel) (by decide +kernel)
theorem w_il_1 : Cond.constant (csN 6) 76 (Int32.ofInt (-1000000002)) ∈ gw := gw_in 328 (by decide +kernel) (by decide +kernel)
theorem w_il_2 : Cond.constant (csN 6) 152 (Int32.ofInt (-1000000003)) ∈ gw := gw_in 399 (by decide +kernel) (by decide +kernel)
theorem w_il_3 : Cond.constant (csN 6) 209 (Int32.ofInt (-1000000004)) ∈ gw := gw_in 529 (by decide +kernel) (by decide +kernel)
theorem w_il_4 : Cond.constant (csN 6) 220 (Int32.ofInt (-1000000007)) ∈ gw := gw_in 562 (by decide +kernel) (by decide +kernel)
theorem w_il_5 : Cond.constant (csN 6) 276 (Int32.ofInt (-1000000006)) ∈ gw := gw_in 748 (by decide +kernel) (by decide +kernel)
theorem w_il_6 : Cond.constant (csN 7) 60 (Int32.ofInt (-1000000001)) ∈ gw := gw_in 895 (by decide +kernel) (by decide +kernel)
theorem w_il_7 : Cond.constant (csN 7) 81 (Int32.ofInt (-1000000002)) ∈ gw := gw_in 900 (by decide +kernel) (by decide +kernel)
theorem w_il_8 : Cond.constant (csN 7) 122 (Int32.ofInt (-1000000003)) ∈ gw := gw_in 972 (by decide +kernel) (by decide +kernel)
theorem w_il_9 : Cond.constant (csN 7) 168 (Int32.ofInt (-1000000004)) ∈ gw := gw_in 1078 (by decide +kernel) (by decide +kernel)
theorem w_il_10 : Cond.constant (csN 7) 176 (Int32.ofInt (-1000000007)) ∈ gw := gw_in 1098 (by decide +kernel) (by decide +kernel)
theorem w_il_11 : Cond.constant (csN 7) 243 (Int32.ofInt (-1000000006)) ∈ gw := gw_in 1194 (by decide +kernel) (by decide +kernel)
theorem w_il_12 : Cond.constant (csN 900) 264 (Int32.ofInt (65536)) ∈ gw := gw_in 453 (by decide +kernel) (by decide +kernel)
theorem w_il_13 : Cond.constant (csN 901) 265 (Int32.ofInt (1431655765)) ∈ gw := gw_in 509 (by decide +kernel) (by decide +kernel)
theorem w_il_14 : Cond.constant (csN 901) 266 (Int32.ofInt (858993459)) ∈ gw := gw_in 510 (by decide +kernel) (by decide +kernel)
theorem w_il_15 : Cond.constant (csN 901) 267 (Int32.ofInt (252645135)) ∈ gw := gw_in 511 (by decide +kernel) (by decide +kernel)
theorem w_il : ∀ e ∈ iLk, Cond.constant (csN e.1.1) e.1.2 (Int32.ofInt e.2) ∈ gw := by
  intro e h
  simp only [iLk, List.mem_cons, List.not_mem_nil, or_false] at h
  rcases h with rfl | rfl | rfl | rfl | rfl | rfl | rfl | rfl | rfl | rfl | rfl | rfl | rfl | rfl | rfl | rfl
  · exact w_il_0
  · exact w_il_1
  · exact w_il_2
  · exact w_il_3
  · exact w_il_4
  · exact w_il_5
  · exact w_il_6
  · exact w_il_7
  · exact w_il_8
  · exact w_il_9
  · exact w_il_10
  · exact w_il_11
  · exact w_il_12
  · exact w_il_13
  · exact w_il_14
  · exact w_il_15
theorem w_ll_0 : Cond.constantLong (csN 10) 148 (Int64.ofInt (4294967295)) ∈ gw := gw_in 1239 (by decide +kernel) (by decide +kernel)
theorem w_ll : ∀ e ∈ lLk, Cond.constantLong (csN e.1.1) e.1.2 (Int64.ofInt e.2) ∈ gw := by
  intro e h
  simp only [lLk, List.mem_cons, List.not_mem_nil, or_false] at h
  rcases h with rfl
  · exact w_ll_0
theorem w_pl_0 : Cond.methodLink (csN 2) 49 arraycopyName ∈ gw := gw_in 570 (by decide +kernel) (by decide +kernel)
theorem w_pl_1 : Cond.methodLink (csN 3) 52 arraycopyName ∈ gw := gw_in 554 (by decide +kernel) (by decide +kernel)
theorem w_pl_2 : Cond.methodLink (csN 6) 291 arraycopyName ∈ gw := gw_in 761 (by decide +kernel) (by decide +kernel)
theorem w_pl : ∀ e ∈ pLk, Cond.methodLink (csN e.1.1) e.1.2 arraycopyName ∈ gw := by
  intro e h
  simp only [pLk, List.mem_cons, List.not_mem_nil, or_false] at h
  rcases h with rfl | rfl | rfl
  · exact w_pl_0
  · exact w_pl_1
  · exact w_pl_2
theorem w_pn : Cond.native arraycopyName ∈ gw := gw_in 556 (by decide +kernel) (by decide +kernel)
theorem w_ps : Cond.static arraycopyName ∈ gw := gw_in 555 (by decide +kernel) (by decide +kernel)
theorem w_pi : Cond.initialized "java/lang/System" ∈ gw := gw_in 66 (by decide +kernel) (by decide +kernel)
theorem w_zl_0 : Cond.fieldLink (csN 8) 38 "java/lang/String" "COMPACT_STRINGS" "Z" ∈ gw := gw_in 659 (by decide +kernel) (by decide +kernel)
theorem w_zl : ∀ e ∈ zLk, Cond.fieldLink (csN e.1.1) e.1.2 "java/lang/String" "COMPACT_STRINGS" "Z" ∈ gw := by
  intro e h
  simp only [zLk, List.mem_cons, List.not_mem_nil, or_false] at h
  rcases h with rfl
  · exact w_zl_0
theorem w_ql_0 : Cond.fieldLink (csN 8) 1053 "jdk/internal/util/Preconditions" "SIOOBE_FORMATTER" "Ljava/util/function/BiFunction;" ∈ gw := gw_in 675 (by decide +kernel) (by decide +kernel)
theorem w_ql : ∀ e ∈ qLk, Cond.fieldLink (csN e.1.1) e.1.2 "jdk/internal/util/Preconditions" "SIOOBE_FORMATTER" "Ljava/util/function/BiFunction;" ∈ gw := by
  intro e h
  simp only [qLk, List.mem_cons, List.not_mem_nil, or_false] at h
  rcases h with rfl
  · exact w_ql_0
theorem w_vl_0 : Cond.fieldLink (csN 6) 310 "FortyReports" "ABOVE" "[I" ∈ gw := gw_in 366 (by decide +kernel) (by decide +kernel)
theorem w_vl : ∀ e ∈ vLk, Cond.fieldLink (csN e.1.1) e.1.2 "FortyReports" "ABOVE" "[I" ∈ gw := by
  intro e h
  simp only [vLk, List.mem_cons, List.not_mem_nil, or_false] at h
  rcases h with rfl
  · exact w_vl_0
def sTx : Nat → String := fun k => match k with
  | 110 => "child"
  | 111 => "patience"
  | 112 => "length"
  | 113 => "words"
  | 114 => "seen"
  | 115 => "girl"
  | 116 => "of"
  | 117 => "line seen heaped leaned copied coded left"
  | 118 => "work conduct hand voice"
  | _ => ""
theorem w_u0 : ∀ w ∈ u_ws RX0 TX0 6, w ∈ gw := fun w h => List.mem_filter.mpr ⟨(by decide +kernel : ∀ w ∈ u_ws RX0 TX0 6, w ∈ lw_tbl) w h, (by decide +kernel : ∀ w ∈ u_ws RX0 TX0 6, goodWord w = true) w h⟩
theorem w_u1 : ∀ w ∈ u_ws RX1 TX1 5, w ∈ gw := fun w h => List.mem_filter.mpr ⟨(by decide +kernel : ∀ w ∈ u_ws RX1 TX1 5, w ∈ lw_tbl) w h, (by decide +kernel : ∀ w ∈ u_ws RX1 TX1 5, goodWord w = true) w h⟩
theorem w_u2 : ∀ w ∈ u_ws RX2 TX2 5, w ∈ gw := fun w h => List.mem_filter.mpr ⟨(by decide +kernel : ∀ w ∈ u_ws RX2 TX2 5, w ∈ lw_tbl) w h, (by decide +kernel : ∀ w ∈ u_ws RX2 TX2 5, goodWord w = true) w h⟩
theorem w_u3 : ∀ w ∈ u_ws RX3 TX3 16, w ∈ gw := fun w h => List.mem_filter.mpr ⟨(by decide +kernel : ∀ w ∈ u_ws RX3 TX3 16, w ∈ lw_tbl) w h, (by decide +kernel : ∀ w ∈ u_ws RX3 TX3 16, goodWord w = true) w h⟩
theorem w_u4 : ∀ w ∈ u_ws RX4 TX4 3, w ∈ gw := fun w h => List.mem_filter.mpr ⟨(by decide +kernel : ∀ w ∈ u_ws RX4 TX4 3, w ∈ lw_tbl) w h, (by decide +kernel : ∀ w ∈ u_ws RX4 TX4 3, goodWord w = true) w h⟩
theorem w_u5 : ∀ w ∈ u_ws RX5 TX5 2, w ∈ gw := fun w h => List.mem_filter.mpr ⟨(by decide +kernel : ∀ w ∈ u_ws RX5 TX5 2, w ∈ lw_tbl) w h, (by decide +kernel : ∀ w ∈ u_ws RX5 TX5 2, goodWord w = true) w h⟩
theorem w_u6 : ∀ w ∈ u_ws RX6 TX6 10, w ∈ gw := fun w h => List.mem_filter.mpr ⟨(by decide +kernel : ∀ w ∈ u_ws RX6 TX6 10, w ∈ lw_tbl) w h, (by decide +kernel : ∀ w ∈ u_ws RX6 TX6 10, goodWord w = true) w h⟩
theorem w_u7 : ∀ w ∈ u_ws RX7 TX7 26, w ∈ gw := fun w h => List.mem_filter.mpr ⟨(by decide +kernel : ∀ w ∈ u_ws RX7 TX7 26, w ∈ lw_tbl) w h, (by decide +kernel : ∀ w ∈ u_ws RX7 TX7 26, goodWord w = true) w h⟩
