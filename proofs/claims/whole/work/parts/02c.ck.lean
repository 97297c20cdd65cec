/-! 21.link: by wip/whole/gen_link2.py -/
def nAr : Nat → Nat := fun k => match k with
  | 0 => 1
  | 1 => 1
  | 2 => 1
  | 3 => 1
  | 4 => 2
  | 5 => 1
  | 6 => 1
  | 7 => 3
  | 8 => 0
  | 9 => 1
  | 10 => 1
  | 100 => 2
  | 101 => 2
  | 102 => 2
  | 103 => 1
  | 200 => 1
  | 201 => 3
  | 202 => 2
  | 203 => 1
  | 204 => 4
  | 300 => 1
  | 301 => 0
  | 302 => 5
  | 303 => 2
  | 304 => 1
  | 305 => 1
  | 306 => 2
  | 307 => 1
  | 308 => 0
  | 309 => 0
  | 310 => 0
  | 311 => 1
  | 312 => 1
  | 313 => 1
  | 314 => 2
  | 400 => 0
  | 401 => 2
  | 402 => 1
  | 403 => 2
  | 500 => 2
  | 501 => 1
  | 502 => 1
  | 600 => 4
  | 601 => 2
  | 602 => 3
  | 603 => 5
  | 604 => 2
  | 605 => 2
  | 606 => 2
  | 607 => 2
  | 608 => 1
  | 609 => 2
  | 610 => 1
  | 611 => 1
  | 612 => 1
  | 613 => 3
  | 614 => 1
  | 615 => 1
  | 616 => 1
  | 617 => 1
  | 618 => 1
  | 619 => 0
  | 620 => 0
  | 621 => 1
  | 622 => 2
  | 623 => 2
  | 624 => 1
  | 625 => 2
  | 626 => 1
  | 627 => 1
  | 628 => 2
  | 629 => 0
  | 630 => 0
  | 631 => 3
  | 632 => 3
  | 633 => 5
  | 634 => 1
  | 635 => 2
  | 636 => 0
  | 637 => 0
  | 638 => 0
  | 639 => 1
  | 640 => 1
  | 641 => 1
  | 642 => 1
  | 643 => 1
  | 644 => 1
  | 645 => 3
  | 646 => 1
  | 647 => 1
  | 648 => 1
  | 649 => 3
  | 650 => 2
  | 651 => 2
  | 652 => 3
  | 700 => 1
  | 701 => 3
  | 702 => 3
  | 703 => 2
  | 704 => 1
  | 705 => 1
  | 706 => 2
  | 707 => 2
  | 708 => 3
  | 709 => 2
  | 710 => 2
  | 711 => 1
  | 712 => 4
  | 713 => 1
  | 714 => 4
  | 715 => 1
  | 716 => 2
  | 717 => 3
  | 718 => 5
  | 719 => 5
  | 720 => 1
  | 721 => 2
  | 722 => 1
  | 723 => 1
  | 724 => 2
  | 725 => 2
  | 726 => 2
  | 727 => 2
  | 728 => 2
  | 729 => 1
  | 730 => 1
  | 731 => 2
  | 732 => 1
  | 733 => 1
  | 734 => 1
  | 735 => 1
  | 736 => 1
  | 737 => 3
  | 738 => 0
  | 739 => 1
  | 740 => 1
  | 741 => 2
  | 742 => 1
  | 743 => 1
  | 744 => 1
  | 745 => 1
  | 746 => 1
  | 747 => 1
  | 748 => 0
  | 749 => 0
  | 750 => 1
  | 751 => 1
  | 752 => 2
  | 753 => 2
  | 754 => 3
  | 755 => 1
  | 756 => 2
  | 757 => 2
  | 758 => 2
  | 759 => 1
  | 760 => 1
  | 761 => 1
  | 762 => 2
  | 763 => 0
  | 764 => 3
  | 765 => 0
  | 766 => 0
  | 767 => 1
  | 768 => 2
  | 769 => 2
  | 770 => 4
  | 771 => 0
  | 772 => 0
  | 773 => 0
  | 774 => 0
  | 775 => 1
  | 776 => 3
  | 777 => 3
  | 778 => 3
  | 779 => 5
  | 780 => 1
  | 781 => 2
  | 782 => 0
  | 783 => 0
  | 784 => 0
  | 785 => 0
  | 786 => 0
  | 787 => 1
  | 788 => 1
  | 800 => 0
  | 801 => 1
  | 802 => 0
  | 803 => 0
  | 804 => 2
  | 900 => 1
  | 901 => 1
  | 910 => 2
  | 911 => 2
  | 920 => 2
  | 930 => 2
  | 940 => 3
  | 1000 => 1
  | _ => 0
def ckI (m : Nat) (v : Int) (raw : Instr) (len : Nat) : Bool := match raw with
  | .iconst u => decide (u = v) && len == 1
  | .bipush u => decide ((Int8.ofInt u).toInt32 = Int32.ofInt v) && len == 2
  | .sipush u => decide ((Int16.ofInt u).toInt32 = Int32.ofInt v) && len == 3
  | .ldc idx => decide (iLk.lookup (cxN m, idx) = some v) && len == 2
  | .ldc_w idx => decide (iLk.lookup (cxN m, idx) = some v) && len == 3
  | .getstatic idx => (zLk.lookup (cxN m, idx)).isSome && decide (v = 1) && len == 3
  | _ => false
def ckJ (m : Nat) (v : Int) (raw : Instr) (len : Nat) : Bool := match raw with
  | .lconst u => decide (Int64.ofNat (u : Nat) = Int64.ofInt v) && len == 1
  | .ldc2_w idx => decide (lLk.lookup (cxN m, idx) = some v) && len == 3
  | _ => false
def ckIl (k : Nat) (raw : Instr) (len : Nat) : Bool := match raw with
  | .iload_n u => decide ((u : Nat) = k) && len == 1
  | .iload u => decide (u = k) && len == 2
  | _ => false
def ckAl (k : Nat) (raw : Instr) (len : Nat) : Bool := match raw with
  | .aload_n u => decide ((u : Nat) = k) && len == 1
  | .aload u => decide (u = k) && len == 2
  | _ => false
def ckLl (k : Nat) (raw : Instr) (len : Nat) : Bool := match raw with
  | .lload_n u => decide ((u : Nat) = k) && len == 1
  | .lload u => decide (u = k) && len == 2
  | _ => false
def ckIs (k : Nat) (raw : Instr) (len : Nat) : Bool := match raw with
  | .istore_n u => decide ((u : Nat) = k) && len == 1
  | .istore u => decide (u = k) && len == 2
  | _ => false
def ckAs (k : Nat) (raw : Instr) (len : Nat) : Bool := match raw with
  | .astore_n u => decide ((u : Nat) = k) && len == 1
  | .astore u => decide (u = k) && len == 2
  | _ => false
def ckLs (k : Nat) (raw : Instr) (len : Nat) : Bool := match raw with
  | .lstore u => decide (u = k) && len == 2
  | _ => false
def ckGo (pc : Nat) (t : Int) (raw : Instr) (len : Nat) : Bool := match raw with
  | .goto off => decide ((pc : Int) + off = t ∧ 0 ≤ t) && len == 3
  | _ => false
def ckIc (pc : Nat) (c : Jvm.ClassFile.Cond) (t : Int) (raw : Instr) (len : Nat) : Bool := match raw with
  | .if_icmp c' off => decide (c' = c) && decide ((pc : Int) + off = t ∧ 0 ≤ t) && len == 3
  | _ => false
def ckIf (pc : Nat) (c : Jvm.ClassFile.Cond) (t : Int) (raw : Instr) (len : Nat) : Bool := match raw with
  | .ifCond c' off => decide (c' = c) && decide ((pc : Int) + off = t ∧ 0 ≤ t) && len == 3
  | _ => false
def ckTs (pc : Nat) (d lo hi : Int) (os : Array Int) (raw : Instr) : Bool := match raw with
  | .tableswitch d' lo' hi' os' => decide ((pc : Int) + d' = d ∧ 0 ≤ d ∧ lo' = lo ∧ hi' = hi ∧ os.toList = os'.toList.map (fun x => (pc : Int) + x)) && decide (os'.toList.length = (hi - lo + 1).toNat) && decide (lo ≤ hi ∧ -1000 ≤ lo ∧ hi ≤ 1000) && os.toList.all (fun x => decide (0 ≤ x))
  | _ => false
def ckLw (pc : Nat) (d : Int) (ps : Array (Int × Int)) (raw : Instr) : Bool := match raw with
  | .lookupswitch d' ps' => decide ((pc : Int) + d' = d ∧ 0 ≤ d ∧ ps.toList = ps'.toList.map (fun x => (x.1, (pc : Int) + x.2))) && (ps'.toList.zip (ps'.toList.drop 1)).all (fun (a, next) => a.1 < next.1) && ps.toList.all (fun x => decide (0 ≤ x.2 ∧ -1000 ≤ x.1 ∧ x.1 ≤ 1000))
  | _ => false
def ckGf (m q : Nat) (raw : Instr) (len : Nat) : Bool := match raw with
  | .getfield idx => decide (fLk.lookup (cxN m, idx) = some q) && len == 3
  | _ => false
def ckPf (m q : Nat) (raw : Instr) (len : Nat) : Bool := match raw with
  | .putfield idx => decide (fLk.lookup (cxN m, idx) = some q) && len == 3
  | _ => false
def ckGs (m k : Nat) (raw : Instr) (len : Nat) : Bool := match raw with
  | .getstatic idx => ((decide (k = 101) && (vLk.lookup (cxN m, idx)).isSome) || (decide (k = 150) && (qLk.lookup (cxN m, idx)).isSome)) && len == 3
  | _ => false
def ckSt (m k : Nat) (raw : Instr) (len : Nat) : Bool := match raw with
  | .ldc idx => decide (sLk.lookup (cxN m, idx) = some k) && len == 2
  | _ => false
def ckV (m y n : Nat) (raw : Instr) (len : Nat) : Bool := match raw with
  | .invokevirtual idx => decide (mLk0.lookup (cxN m, idx) = some (y, 0)) && decide (y ∈ mVir) && decide (y ∈ mAll) && decide (nAr y + 1 = n) && len == 3
  | _ => false
def ckSt2 (m y n : Nat) (raw : Instr) (len : Nat) : Bool := match raw with
  | .invokestatic idx => (decide (mLk0.lookup (cxN m, idx) = some (y, 0)) || decide (mLk1.lookup (cxN m, idx) = some (y, 1))) && decide (y ∈ mSta) && decide (y ∈ mAll) && decide (nAr y = n) && len == 3
  | _ => false
def ckCp (m : Nat) (raw : Instr) (len : Nat) : Bool := match raw with
  | .invokestatic idx => (pLk.lookup (cxN m, idx)).isSome && len == 3
  | _ => false
def ck (m pc : Nat) (i : Instr) (nx : Nat) (raw : Instr) (len : Nat) : Bool := decide (nx = pc + len) && (match i with
  | .iconst v => ckI m v raw len
  | .bipush v => ckJ m v raw len
  | .iload k => ckIl k raw len
  | .aload k => ckAl k raw len
  | .lload k => ckLl k raw len
  | .istore k => ckIs k raw len
  | .astore k => ckAs k raw len
  | .lstore k => ckLs k raw len
  | .goto t => ckGo pc t raw len
  | .if_icmp c t => ckIc pc c t raw len
  | .ifCond c t => ckIf pc c t raw len
  | .tableswitch d lo hi os => ckTs pc d lo hi os raw
  | .lookupswitch d ps => ckLw pc d ps raw
  | .getfield q => ckGf m q raw len
  | .putfield q => ckPf m q raw len
  | .getstatic k => ckGs m k raw len
  | .ldc k => ckSt m k raw len
  | .invokeinterface y n => ckV m y n raw len
  | .multianewarray y n => ckSt2 m y n raw len
  | .invokedynamic _ => ckCp m raw len
  | .ireturn => decide (raw = .ireturn) && decide (rty m = some .int) && len == 1
  | .dreturn => decide (raw = .ireturn) && decide (rty m = some .boolean) && len == 1
  | .areturn => decide (raw = .ireturn) && decide (rty m = some .byte) && len == 1
  | .freturn => decide (raw = .ireturn) && decide (rty m = some .char) && len == 1
  | .lreturn => decide (raw = .lreturn) && decide (rty m = some .long) && len == 1
  | .return_ => decide (raw = .return_) && decide (rty m = none) && len == 1
  | .iinc k c => decide (raw = .iinc k c) && len == 3
  | .nop => true
  | i => decide (raw = i) && len == 1)
def lkP (m : Nat) (e : Nat × Instr × Nat × Bool) : Prop := ∃ q : Instr × Nat, decode (byt m) e.1 = .ok q ∧ ck m e.1 e.2.1 e.2.2.1 q.1 q.2 = true
theorem lookup_mem {α β : Type} [BEq α] [LawfulBEq α] {l : List (α × β)} {a : α} {b : β} (h : l.lookup a = some b) : (a, b) ∈ l := by
  induction l with
  | nil => simp at h
  | cons q l ih =>
    obtain ⟨x, y⟩ := q
    rw [List.lookup_cons] at h
    cases hx : a == x with
    | true =>
      rw [hx] at h
      have h1 := eq_of_beq hx
      subst h1
      have h2 : y = b := by simpa using h
      subst h2
      exact List.mem_cons_self
    | false =>
      rw [hx] at h
      exact List.mem_cons_of_mem _ (ih h)
def ckR0 (C : Nat → Instr → Nat → Instr × Nat → Bool) (rw : List (Nat × Instr × Nat)) (e : Nat × Instr × Nat × Bool) : Bool := match rw.lookup e.1 with
  | some q => C e.1 e.2.1 e.2.2.1 q
  | none => false
theorem link_of0 {D : Nat → Instr × Nat → Prop} {C : Nat → Instr → Nat → Instr × Nat → Bool} {rw : List (Nat × Instr × Nat)} {cd : List (Nat × Instr × Nat × Bool)} (hd : ∀ e ∈ rw, D e.1 e.2) (hc : ∀ e ∈ cd, ckR0 C rw e = true) : ∀ e ∈ cd, ∃ q, D e.1 q ∧ C e.1 e.2.1 e.2.2.1 q = true := by
  intro e he
  have h := hc e he
  unfold ckR0 at h
  cases hq : rw.lookup e.1 with
  | none => rw [hq] at h; cases h
  | some q =>
    rw [hq] at h
    exact ⟨q, hd (e.1, q) (lookup_mem hq), h⟩
def ckR (m : Nat) (rw : List (Nat × Instr × Nat)) (e : Nat × Instr × Nat × Bool) : Bool := ckR0 (fun pc i nx q => ck m pc i nx q.1 q.2) rw e
theorem link_of {m : Nat} {rw : List (Nat × Instr × Nat)} {cd : List (Nat × Instr × Nat × Bool)} (hd : ∀ e ∈ rw, decode (byt m) e.1 = .ok e.2) (hc : ∀ e ∈ cd, ckR m rw e = true) : ∀ e ∈ cd, lkP m e := link_of0 (D := fun pc q => decode (byt m) pc = .ok q) (C := fun pc i nx q => ck m pc i nx q.1 q.2) hd hc
theorem w_na : ∀ m ∈ mAll, (parseMethodDescriptor (yN m).desc).map (fun d => d.parameters.length) = some (nAr m) := by decide +kernel
theorem w_nm : ∀ m ∈ mAll, (yN m).cls ≠ "java/lang/invoke/MethodHandle" ∧ (yN m).cls ≠ "java/lang/invoke/VarHandle" := by decide +kernel
theorem w_pl9 : ∀ m ∈ mAll, plainFor (yN m) = true := by decide +kernel
