/-! 47.perm: orders, one by one -/
def ms (X n : Nat) : List Nat := (List.range n).filter (fun j => X.testBit j)
theorem ms_s (X n : Nat) : ms X (n + 1) = if X.testBit n = true then ms X n ++ [n] else ms X n := by
  unfold ms
  rw [List.range_succ, List.filter_append]
  by_cases h : X.testBit n = true
  · rw [if_pos h, List.filter_cons_of_pos h, List.filter_nil]
  · rw [if_neg h, List.filter_cons_of_neg h, List.filter_nil, List.append_nil]
theorem ms_more {X n : Nat} (h : ∀ c, X.testBit c = true → c < n) : ∀ i, ms X (n + i) = ms X n := by
  intro i
  induction i with
  | zero => rfl
  | succ i ih =>
    rw [← Nat.add_assoc, ms_s, if_neg (fun q => by have := h _ q; omega), ih]
theorem ms_clr {X c n : Nat} (hX : X < 4096) : ms (clr X c) n = (ms X n).filter (fun j => decide (j ≠ c)) := by
  unfold ms
  rw [List.filter_filter]
  congr 1
  funext j
  rw [clr_bit hX, Bool.and_comm]
def perms : Nat → List Nat → List (List Nat)
  | 0, _ => [[]]
  | f + 1, rem => if rem = [] then [[]] else rem.flatMap (fun c => (perms f (rem.filter (fun j => decide (j ≠ c)))).map (fun o => c :: o))
theorem perms_s {f : Nat} {rem : List Nat} (h : rem ≠ []) : perms (f + 1) rem = rem.flatMap (fun c => (perms f (rem.filter (fun j => decide (j ≠ c)))).map (fun o => c :: o)) := if_neg h
theorem perms_nil (f : Nat) : perms f [] = [[]] := by cases f <;> rfl
theorem filter_map_inj {g : Nat → Nat} {c : Nat} : ∀ {l : List Nat}, (∀ x, x ∈ l → g x = g c → x = c) → (l.map g).filter (fun j => decide (j ≠ g c)) = (l.filter (fun j => decide (j ≠ c))).map g := by
  intro l
  induction l with
  | nil => intro _; rfl
  | cons x l ih =>
    intro h
    have ih' := ih (fun y hy => h y (List.mem_cons_of_mem x hy))
    by_cases e : x = c
    · subst e
      rw [List.map_cons, List.filter_cons_of_neg (by simp), List.filter_cons_of_neg (by simp)]
      exact ih'
    · have e2 : g x ≠ g c := fun z => e (h x List.mem_cons_self z)
      rw [List.map_cons, List.filter_cons_of_pos (by simpa using e2), List.filter_cons_of_pos (by simpa using e), List.map_cons, ih']
theorem flatMap_cong {α β : Type} {f g : α → List β} : ∀ {l : List α}, (∀ x, x ∈ l → f x = g x) → l.flatMap f = l.flatMap g := by
  intro l
  induction l with
  | nil => intro _; rfl
  | cons x l ih =>
    intro h
    rw [List.flatMap_cons, List.flatMap_cons, h x List.mem_cons_self, ih (fun y hy => h y (List.mem_cons_of_mem x hy))]
theorem perms_map (g : Nat → Nat) : ∀ (f : Nat) (l : List Nat), (∀ x y, x ∈ l → y ∈ l → g x = g y → x = y) → perms f (l.map g) = (perms f l).map (fun o => o.map g) := by
  intro f
  induction f with
  | zero => intro l _; rfl
  | succ f ih =>
    intro l h
    by_cases e : l = []
    · subst e; rfl
    · rw [perms_s e, perms_s (by simpa using e), List.flatMap_map, List.map_flatMap]
      refine flatMap_cong (fun c hc => ?_)
      rw [filter_map_inj (fun x hx z => h x c hx hc z), ih _ (fun x y hx hy z => h x y (List.mem_filter.mp hx).1 (List.mem_filter.mp hy).1 z), List.map_map, List.map_map]
      rfl
/-! what an order is worth -/
def stp (a : Option (Nat × List Nat)) (v : Nat) (o : List Nat) : Option (Nat × List Nat) := match a with
  | none => some (v, o)
  | some p => if p.1 < v then some (v, o) else some p
def plV (N m : Nat) : (Nat → Int32) → List Nat → Nat
  | _, [] => 0
  | t, c :: cs => sd t N m c + plV N m (wrS t c (wl t N m c)) cs
def dv (N m : Nat) : Nat → (Nat → Int32) → List Nat → List Nat → Nat → Option (Nat × List Nat) → Option (Nat × List Nat)
  | 0, _, _, pre, v, a => stp a v pre
  | f + 1, t, rem, pre, v, a => if rem = [] then stp a v pre else rem.foldl (fun a c => dv N m f (wrS t c (wl t N m c)) (rem.filter (fun j => decide (j ≠ c))) (pre ++ [c]) (v + sd t N m c) a) a
theorem foldl_flat {α β : Type} {g : β → α → β} {h : Nat → List α} : ∀ (l : List Nat) (a : β), (l.flatMap h).foldl g a = l.foldl (fun a c => (h c).foldl g a) a := by
  intro l
  induction l with
  | nil => intro a; rfl
  | cons x l ih => intro a; rw [List.flatMap_cons, List.foldl_append, ih]; rfl
theorem foldl_ext2 {β : Type} {g h : β → Nat → β} (e : ∀ a c, g a c = h a c) (l : List Nat) (a : β) : l.foldl g a = l.foldl h a := by
  have : g = h := by funext a c; exact e a c
  rw [this]
theorem dv_perms (N m : Nat) : ∀ (f : Nat) (t : Nat → Int32) (rem pre : List Nat) (v : Nat) (a : Option (Nat × List Nat)), dv N m f t rem pre v a = (perms f rem).foldl (fun a o => stp a (v + plV N m t o) (pre ++ o)) a := by
  intro f
  induction f with
  | zero => intro t rem pre v a; simp [dv, perms, plV]
  | succ f ih =>
    intro t rem pre v a
    by_cases e : rem = []
    · subst e; simp [dv, perms, plV]
    · rw [perms_s e, foldl_flat, dv, if_neg e]
      refine foldl_ext2 (fun a c => ?_) rem a
      rw [ih, List.foldl_map]
      have : (fun (a : Option (Nat × List Nat)) o => stp a (v + sd t N m c + plV N m (wrS t c (wl t N m c)) o) (pre ++ [c] ++ o)) = fun a o => stp a (v + plV N m t (c :: o)) (pre ++ c :: o) := by
        funext a o
        rw [plV, List.append_assoc, List.singleton_append, Nat.add_assoc]
      rw [this]
def plS (N m : Nat) : (Nat → Int32) → List Nat → (Nat → Int32)
  | t, [] => t
  | t, c :: cs => plS N m (wrS t c (wl t N m c)) cs
theorem pl_app (N m : Nat) : ∀ (l : List Nat) (t : Nat → Int32) (c : Nat), plS N m t (l ++ [c]) = wrS (plS N m t l) c (wl (plS N m t l) N m c) ∧ plV N m t (l ++ [c]) = plV N m t l + sd (plS N m t l) N m c := by
  intro l
  induction l with
  | nil => intro t c; simp [plS, plV]
  | cons x l ih =>
    intro t c
    obtain ⟨h1, h2⟩ := ih (wrS t x (wl t N m x)) c
    rw [List.cons_append, plS, plV, plS, plV, h1, h2]
    exact ⟨rfl, by omega⟩
theorem pV_pl (N m : Nat) (q : Nat → Nat) (s : Nat → Int32) (k : Nat) : pS q s N m k = plS N m s ((List.range k).map q) ∧ pV q s N m k = plV N m s ((List.range k).map q) := by
  induction k with
  | zero => exact ⟨rfl, rfl⟩
  | succ k ih =>
    obtain ⟨h1, h2⟩ := pl_app N m ((List.range k).map q) s (q k)
    rw [List.range_succ, List.map_append, List.map_cons, List.map_nil, h1, h2, pS, pV, ih.1, ih.2]
    exact ⟨rfl, rfl⟩
/-! orders as digits -/
def dg (k r j : Nat) : Nat := r / k ^ (k - 1 - j) % k
def okd (k r : Nat) : Bool := tP (dg k r) k == 2 ^ k - 1
theorem perms_dg : ∀ k, k ≤ 5 → perms 5 (List.range k) = ((List.range (k ^ k)).filter (okd k)).map (fun r => (List.range k).map (dg k r)) := by decide +kernel
def nth (S u : Nat) : Nat := fa_first (fun j => S.testBit j && gix S j == u) 12
theorem nth_ok {S u : Nat} (h : u < gix S 12) : nth S u < 12 ∧ S.testBit (nth S u) = true ∧ gix S (nth S u) = u := by
  obtain ⟨i, hi, hb, e⟩ := fb_ct_kth (p := fun j => S.testBit j) h
  have e' : gix S i = u := e
  have hlt : nth S u < 12 := by
    rcases Nat.lt_or_ge (nth S u) 12 with q | q
    · exact q
    · have := fa_first_no (fun j => S.testBit j && gix S j == u) 12 i (Nat.lt_of_lt_of_le hi q)
      rw [hb, e', beq_self_eq_true] at this
      cases this
  have := fa_first_yes (fun j => S.testBit j && gix S j == u) 12 hlt
  rw [Bool.and_eq_true, beq_iff_eq] at this
  exact ⟨hlt, this.1, this.2⟩
theorem nth_gix {S c : Nat} (hc : c < 12) (hb : S.testBit c = true) : nth S (gix S c) = c := by
  have hlt : gix S c < gix S 12 := by
    have h2 : gix S (c + 1) ≤ gix S 12 := by unfold gix; exact fb_ct_mono _ (by omega)
    rw [gix_s, if_pos hb] at h2
    omega
  obtain ⟨h1, h2, h3⟩ := nth_ok hlt
  exact fb_ct_kth_one (p := fun j => S.testBit j) h2 hb h3
theorem nth_gap {S u x : Nat} (h : u < gix S 12) (hx : x < nth S u) (hu : u = 0 ∨ nth S (u - 1) < x) : S.testBit x = false := by
  obtain ⟨h1, h2, h3⟩ := nth_ok h
  cases q : S.testBit x with
  | false => rfl
  | true =>
    exfalso
    have a1 : gix S (x + 1) ≤ gix S (nth S u) := by unfold gix; exact fb_ct_mono _ (by omega)
    rw [gix_s, if_pos q, h3] at a1
    rcases hu with e | e
    · omega
    · obtain ⟨g1, g2, g3⟩ := nth_ok (S := S) (u := u - 1) (by omega)
      have a2 : gix S (nth S (u - 1) + 1) ≤ gix S x := by unfold gix; exact fb_ct_mono _ (by omega)
      rw [gix_s, if_pos g2, g3] at a2
      omega
theorem ms_nth (S : Nat) : ∀ n, n ≤ 12 → ms S n = (List.range (gix S n)).map (nth S) := by
  intro n
  induction n with
  | zero => intro _; rfl
  | succ n ih =>
    intro hn
    rw [ms_s, gix_s]
    by_cases h : S.testBit n = true
    · rw [if_pos h, if_pos h, List.range_succ, List.map_append, ih (by omega), List.map_cons, List.map_nil, nth_gix (by omega) h]
    · rw [if_neg h, if_neg h, ih (by omega)]
theorem gix_pop (S : Nat) : gix S 12 = pop S := rfl
theorem dg_lt {k r j : Nat} (hk : 0 < k) : dg k r j < k := Nat.mod_lt _ hk
def qr (S k r j : Nat) : Nat := if j < k then nth S (dg k r j) else 0
theorem qr_lt {S k r j : Nat} (hk : k = gix S 12) : qr S k r j < 12 := by
  unfold qr
  split
  · exact (nth_ok (by rw [← hk]; exact dg_lt (by omega))).1
  · decide
theorem tP_cong {q q' : Nat → Nat} (n : Nat) (h : ∀ j, j < n → q j = q' j) : tP q n = tP q' n := by
  induction n with
  | zero => rw [tP, tP]
  | succ n ih => rw [tP, tP, ih (fun j hj => h j (by omega)), h n (by omega)]
theorem told_ok {S k r : Nat} (hS : S < 4096) (hk : k = gix S 12) : (tP (qr S k r) k = S) ↔ okd k r = true := by
  have e : tP (qr S k r) k = tP (fun j => nth S (dg k r j)) k := tP_cong k (fun j hj => if_pos hj)
  unfold okd
  rw [beq_iff_eq, e]
  constructor
  · intro h
    apply Nat.eq_of_testBit_eq
    intro c
    rw [Nat.testBit_two_pow_sub_one, Bool.eq_iff_iff, tP_bit, decide_eq_true_eq]
    constructor
    · rintro ⟨j, hj, rfl⟩
      exact dg_lt (by omega)
    · intro hc
      obtain ⟨h1, h2, h3⟩ := nth_ok (S := S) (u := c) (by omega)
      have h2' : (tP (fun j => nth S (dg k r j)) k).testBit (nth S c) = true := by rw [h]; exact h2
      rw [tP_bit] at h2'
      obtain ⟨j, hj, e2⟩ := h2'
      refine ⟨j, hj, ?_⟩
      obtain ⟨g1, g2, g3⟩ := nth_ok (S := S) (u := dg k r j) (by rw [← hk]; exact dg_lt (by omega))
      rw [← g3, e2, h3]
  · intro h
    apply Nat.eq_of_testBit_eq
    intro c
    rw [Bool.eq_iff_iff, tP_bit]
    constructor
    · rintro ⟨j, hj, rfl⟩
      exact (nth_ok (by rw [← hk]; exact dg_lt (by omega))).2.1
    · intro hc
      have hc12 : c < 12 := by
        rcases Nat.lt_or_ge c 12 with q | q
        · exact q
        · have := Nat.testBit_lt_two_pow (x := S) (i := c) (Nat.lt_of_lt_of_le hS (Nat.pow_le_pow_right (by decide) q : 2 ^ 12 ≤ 2 ^ c))
          rw [this] at hc
          cases hc
      have hlt : gix S c < k := by
        have h2 : gix S (c + 1) ≤ gix S 12 := by unfold gix; exact fb_ct_mono _ (by omega)
        rw [gix_s, if_pos hc] at h2
        omega
      have hb : (2 ^ k - 1).testBit (gix S c) = true := by rw [Nat.testBit_two_pow_sub_one, decide_eq_true hlt]
      rw [← h, tP_bit] at hb
      obtain ⟨j, hj, e2⟩ := hb
      exact ⟨j, hj, show nth S (dg k r j) = c by rw [e2]; exact nth_gix hc12 hc⟩
/-- the reference's fold -/
def rfF (N m S k : Nat) (s : Nat → Int32) : Nat → Option (Nat × List Nat)
  | 0 => none
  | r + 1 => if okd k r = true then stp (rfF N m S k s r) (pV (qr S k r) s N m k) ((List.range k).map (qr S k r)) else rfF N m S k s r
theorem rf_dv (N m S k : Nat) (s : Nat → Int32) (hk : k = gix S 12) (h5 : k ≤ 5) : rfF N m S k s (k ^ k) = dv N m 5 s (ms S 12) [] 0 none := by
  have e1 : ∀ n, rfF N m S k s n = (((List.range n).filter (okd k)).map (fun r => (List.range k).map (qr S k r))).foldl (fun a o => stp a (0 + plV N m s o) ([] ++ o)) none := by
    intro n
    induction n with
    | zero => rfl
    | succ n ih =>
      rw [rfF, List.range_succ, List.filter_append, List.map_append, List.foldl_append, ← ih]
      by_cases q : okd k n = true
      · rw [if_pos q, List.filter_cons_of_pos q, List.filter_nil, List.map_cons, List.map_nil, List.foldl_cons, List.foldl_nil, (pV_pl N m (qr S k n) s k).2, Nat.zero_add, List.nil_append]
      · rw [if_neg q, List.filter_cons_of_neg q, List.filter_nil]
        rfl
  rw [e1, dv_perms, ms_nth S 12 (Nat.le_refl 12), ← hk, perms_map (nth S) 5 (List.range k) (fun x y hx hy z => by
    rw [List.mem_range] at hx hy
    obtain ⟨-, -, h3⟩ := nth_ok (S := S) (u := x) (by omega)
    obtain ⟨-, -, g3⟩ := nth_ok (S := S) (u := y) (by omega)
    rw [← h3, ← g3, z]), perms_dg k h5, List.map_map]
  have this : (fun r => (List.range k).map (qr S k r)) = ((fun o => o.map (nth S)) ∘ fun r => (List.range k).map (dg k r)) := by
    funext r
    rw [Function.comp_apply, List.map_map]
    refine List.map_congr_left (fun j hj => ?_)
    rw [List.mem_range] at hj
    rw [Function.comp_apply]
    exact if_pos hj
  rw [this]
