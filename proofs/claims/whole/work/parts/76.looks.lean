/-! ===== how many looks: pure part ===== -/
section LooksP
def itQ (q : Nat → Bool) (N k : Nat) : Nat := findF (fun j => q j && decide (cB q j = k)) N 0 - 1
theorem itQ_at {q : Nat → Bool} {N j : Nat} (hj : j < N) (w : q j = true) : itQ q N (cB q j) = j := by
  unfold itQ
  rw [findF_first (fun i => q i && decide (cB q i = cB q j)) N 0 (j := j) (Nat.zero_le _) (by omega) (by rw [w, decide_eq_true rfl]; rfl) (fun i _ hi => ?_), Nat.add_sub_cancel]
  by_cases wi' : q i = true
  · have := cB_lt wi' hi
    rw [wi', decide_eq_false (by omega)]; rfl
  · rw [show q i = false by simpa using wi']; rfl
theorem itQ_yes {q : Nat → Bool} {N k : Nat} (hk : k < cB q N) : itQ q N k < N ∧ q (itQ q N k) = true ∧ cB q (itQ q N k) = k := by
  obtain ⟨j, a, b, c⟩ := cB_surj hk
  have e := itQ_at a b
  rw [c] at e
  rw [e]; exact ⟨a, b, c⟩
/-- the kept sets that have the place k, as bits -/
def swN (st : Nat → Nat) (k : Nat) : Nat → Nat
  | 0 => 0
  | j + 1 => swN st k j ||| (if (st j).testBit k = true then 2 ^ j else 0)
theorem sw_bit (st : Nat → Nat) (k i : Nat) : ∀ F, (swN st k F).testBit i = (decide (i < F) && (st i).testBit k)
  | 0 => by show Nat.testBit 0 i = _; rw [Nat.zero_testBit, decide_eq_false (Nat.not_lt_zero i)]; rfl
  | j + 1 => by
    show (swN st k j ||| (if (st j).testBit k = true then 2 ^ j else 0)).testBit i = _
    rw [Nat.testBit_or, sw_bit st k i j]
    by_cases b : (st j).testBit k = true
    · rw [if_pos b, Nat.testBit_two_pow]
      by_cases e : j = i
      · subst e; rw [decide_eq_true rfl, b, decide_eq_true (Nat.lt_succ_self j)]; simp
      · rw [decide_eq_false e, Bool.or_false, show decide (i < j) = decide (i < j + 1) from decide_eq_decide.mpr (by omega)]
    · rw [if_neg b, Nat.zero_testBit, Bool.or_false]
      by_cases e : j = i
      · subst e; rw [show (st j).testBit k = false by simpa using b, Bool.and_false, Bool.and_false]
      · rw [show decide (i < j) = decide (i < j + 1) from decide_eq_decide.mpr (by omega)]
theorem sw_lt (st : Nat → Nat) (k : Nat) : ∀ F, swN st k F < 2 ^ F
  | 0 => Nat.two_pow_pos 0
  | j + 1 => by
    have := sw_lt st k j
    have e : 2 ^ (j + 1) = 2 ^ j * 2 := Nat.pow_succ 2 j
    show (swN st k j ||| (if (st j).testBit k = true then 2 ^ j else 0)) < _
    refine Nat.or_lt_two_pow (by omega) ?_
    split
    · have := Nat.two_pow_pos j; omega
    · exact Nat.two_pow_pos _
/-- the least of what is offered (0: nothing, v + 1: v), from a on -/
def fd (g : Nat → Nat) (a : Nat) : Nat → Nat
  | 0 => a
  | k + 1 => if g k = 0 then fd g a k else if fd g a k ≤ g k - 1 then fd g a k else g k - 1
theorem fd_s (g : Nat → Nat) (a k : Nat) : fd g a (k + 1) = if g k = 0 then fd g a k else if fd g a k ≤ g k - 1 then fd g a k else g k - 1 := rfl
theorem fd_le (g : Nat → Nat) (a : Nat) : ∀ n, fd g a n ≤ a
  | 0 => Nat.le_refl _
  | n + 1 => by
    have := fd_le g a n
    rw [fd_s]
    split
    · exact this
    · split <;> omega
theorem fd_mono (g : Nat → Nat) (a : Nat) {k : Nat} : ∀ {n}, k ≤ n → fd g a n ≤ fd g a k
  | 0, h => by rw [show k = 0 by omega]; exact Nat.le_refl _
  | n + 1, h => by
    by_cases e : k = n + 1
    · rw [e]; exact Nat.le_refl _
    · have := fd_mono g a (k := k) (n := n) (by omega)
      rw [fd_s]
      split
      · exact this
      · split <;> omega
theorem fd_at (g : Nat → Nat) (a : Nat) {k n : Nat} (hk : k < n) (h0 : g k ≠ 0) : fd g a n ≤ g k - 1 := by
  have := fd_mono g a (k := k + 1) (n := n) (by omega)
  rw [fd_s, if_neg h0] at this
  split at this <;> omega
theorem fd_ge (g : Nat → Nat) (a B : Nat) (ha : B ≤ a) : ∀ n, (∀ k, k < n → g k ≠ 0 → B ≤ g k - 1) → B ≤ fd g a n
  | 0, _ => ha
  | n + 1, h => by
    have := fd_ge g a B ha n (fun k hk => h k (by omega))
    rw [fd_s]
    split
    · exact this
    · rename_i z
      have := h n (by omega) z
      split <;> omega
theorem fd_from {g : Nat → Nat} {a b : Nat} : ∀ n, (∃ k, k < n ∧ g k ≠ 0 ∧ g k - 1 < a ∧ g k - 1 < b) → fd g a n = fd g b n
  | 0, ⟨k, hk, _⟩ => absurd hk (Nat.not_lt_zero k)
  | n + 1, ⟨k, hk, h0, h1, h2⟩ => by
    by_cases ex : ∃ k, k < n ∧ g k ≠ 0 ∧ g k - 1 < a ∧ g k - 1 < b
    · rw [fd_s, fd_s, fd_from n ex]
    · have kn : k = n := Classical.byContradiction fun z => ex ⟨k, by omega, h0, h1, h2⟩
      subst kn
      have la : g k - 1 ≤ fd g a k := by
        refine fd_ge g a (g k - 1) (by omega) k (fun i hi z => ?_)
        refine Classical.byContradiction fun w => ex ⟨i, hi, z, by omega, by omega⟩
      have lb : g k - 1 ≤ fd g b k := by
        refine fd_ge g b (g k - 1) (by omega) k (fun i hi z => ?_)
        refine Classical.byContradiction fun w => ex ⟨i, hi, z, by omega, by omega⟩
      rw [fd_s, fd_s, if_neg h0, if_neg h0]
      split <;> split <;> omega
theorem fd_cong {g g' : Nat → Nat} {a : Nat} : ∀ {n}, (∀ k, k < n → g k = g' k) → fd g a n = fd g' a n
  | 0, _ => rfl
  | n + 1, h => by rw [fd_s, fd_s, fd_cong (n := n) (fun k hk => h k (by omega)), h n (by omega)]
theorem fd_more {g : Nat → Nat} {a n : Nat} : ∀ m, (∀ k, n ≤ k → g k = 0) → fd g a (n + m) = fd g a n
  | 0, _ => rfl
  | m + 1, h => by
    show fd g a (n + m + 1) = _
    rw [fd_s, if_pos (h _ (by omega)), fd_more m h]
def vmx (a b : Nat) : Nat := if a < b then b else a
/-- what a look at the place k offers for the sets S -/
def gk (st : Nat → Nat) (F : Nat) (T : Nat → Nat) (S k : Nat) : Nat := if S &&& swN st k F = 0 ∨ S &&& swN st k F = S then 0 else 1 + (1 + vmx (T (S &&& swN st k F)) (T (S ^^^ (S &&& swN st k F))))
def stp (st : Nat → Nat) (F m : Nat) (T : Nat → Nat) (S : Nat) : Nat := if pcn S = 1 then 0 else fd (gk st F T S) 99 m
def tbl (st : Nat → Nat) (F m : Nat) : Nat → Nat → Nat
  | 0, _ => 0
  | S + 1, x => if x = S then stp st F m (tbl st F m S) S else tbl st F m S x
def lk (st : Nat → Nat) (F m S : Nat) : Nat := stp st F m (tbl st F m S) S
theorem tbl_lk {st : Nat → Nat} {F m : Nat} : ∀ {S x : Nat}, x < S → tbl st F m S x = lk st F m x
  | 0, x, h => absurd h (Nat.not_lt_zero x)
  | S + 1, x, h => by
    show (if x = S then stp st F m (tbl st F m S) S else tbl st F m S x) = _
    by_cases e : x = S
    · rw [if_pos e, e]; rfl
    · rw [if_neg e]; exact tbl_lk (by omega)
theorem nz_bit {x : Nat} (hx : x ≠ 0) (h24 : x < 2 ^ 24) : ∃ i, i < 24 ∧ x.testBit i = true := by
  refine Classical.byContradiction fun z => hx (Nat.eq_of_testBit_eq (fun i => ?_))
  rw [Nat.zero_testBit]
  by_cases hi : i < 24
  · cases hb : x.testBit i
    · rfl
    · exact absurd ⟨i, hi, hb⟩ z
  · exact bit_hi h24 (by omega)
theorem pcn_pos {x : Nat} (hx : x ≠ 0) (h24 : x < 2 ^ 24) : 1 ≤ pcn x := by
  obtain ⟨i, hi, hb⟩ := nz_bit hx h24
  have := sE_part (fun k => if x.testBit k = true then 1 else 0) hi
  rw [if_pos hb] at this
  exact this
theorem pcn_parts (S w : Nat) : pcn (S &&& w) + pcn (S ^^^ (S &&& w)) = pcn S := by
  unfold pcn
  rw [← sE_add]
  refine sE_cong (n := 24) (fun k hk => ?_)
  rw [Nat.testBit_xor, Nat.testBit_and]
  cases S.testBit k <;> cases w.testBit k <;> rfl
/-- a proper part and its rest are both less -/
theorem parts {S w : Nat} (h0 : S &&& w ≠ 0) (h1 : S &&& w ≠ S) : S &&& w < S ∧ S ^^^ (S &&& w) < S ∧ S ^^^ (S &&& w) ≠ 0 := by
  have l1 : S &&& w ≤ S := Nat.and_le_left
  have l2 : S ^^^ (S &&& w) ≤ S := by
    have e : S &&& (S ^^^ (S &&& w)) = S ^^^ (S &&& w) := Nat.eq_of_testBit_eq (fun i => by
      rw [Nat.testBit_and, Nat.testBit_xor, Nat.testBit_and]
      cases S.testBit i <;> cases w.testBit i <;> rfl)
    rw [← e]; exact Nat.and_le_left
  have n2 : S ^^^ (S &&& w) ≠ S := fun z => h0 (Nat.eq_of_testBit_eq (fun i => by
    have := congrArg (fun x => x.testBit i) z
    rw [Nat.testBit_xor, Nat.testBit_and] at this
    rw [Nat.testBit_and, Nat.zero_testBit]
    revert this
    cases S.testBit i <;> cases w.testBit i <;> intro this <;> first | rfl | cases this))
  have n3 : S ^^^ (S &&& w) ≠ 0 := fun z => h1 (Nat.eq_of_testBit_eq (fun i => by
    have := congrArg (fun x => x.testBit i) z
    rw [Nat.testBit_xor, Nat.testBit_and, Nat.zero_testBit] at this
    rw [Nat.testBit_and]
    revert this
    cases S.testBit i <;> cases w.testBit i <;> intro this <;> first | rfl | cases this))
  exact ⟨Nat.lt_of_le_of_ne l1 h1, Nat.lt_of_le_of_ne l2 n2, n3⟩
/-- with distinct sets some place tells some of them apart -/
theorem split_some {st : Nat → Nat} {F m S : Nat} (hd : ∀ i j, i < F → j < F → st i = st j → i = j) (hl : ∀ i, i < F → st i < 2 ^ m) (hS : S < 2 ^ F) (hF : F ≤ 12) (h2 : 2 ≤ pcn S) : ∃ k, k < m ∧ S &&& swN st k F ≠ 0 ∧ S &&& swN st k F ≠ S := by
  have two : ∃ i j, i < 24 ∧ j < 24 ∧ i ≠ j ∧ S.testBit i = true ∧ S.testBit j = true := by
    obtain ⟨i, a1, b1, c1⟩ := cB_surj (W := fun k => S.testBit k) (v := 24) (k := 0) (by have : cB (fun k => S.testBit k) 24 = pcn S := rfl; omega)
    obtain ⟨j, a2, b2, c2⟩ := cB_surj (W := fun k => S.testBit k) (v := 24) (k := 1) (by have : cB (fun k => S.testBit k) 24 = pcn S := rfl; omega)
    refine ⟨i, j, a1, a2, fun z => ?_, b1, b2⟩
    rw [z, c2] at c1; cases c1
  obtain ⟨i, j, hi, hj, ne, bi, bj⟩ := two
  have iF : i < F := Classical.byContradiction fun z => by rw [bit_hi hS (by omega)] at bi; cases bi
  have jF : j < F := Classical.byContradiction fun z => by rw [bit_hi hS (by omega)] at bj; cases bj
  obtain ⟨k, hk, hb⟩ := two_bits (hl i iF) (hl j jF) (fun z => ne (hd i j iF jF z))
  have key : ∀ a b, a < F → b < F → S.testBit a = true → S.testBit b = true → (st a).testBit k = true → (st b).testBit k = false → S &&& swN st k F ≠ 0 ∧ S &&& swN st k F ≠ S := by
    intro a b ha hb sa sb ta tb
    refine ⟨fun z => ?_, fun z => ?_⟩
    · have := congrArg (fun x => x.testBit a) z
      rw [Nat.testBit_and, sw_bit, sa, ta, decide_eq_true ha, Nat.zero_testBit] at this
      cases this
    · have := congrArg (fun x => x.testBit b) z
      rw [Nat.testBit_and, sw_bit, sb, tb, decide_eq_true hb] at this
      cases this
  refine ⟨k, hk, ?_⟩
  cases h1 : (st i).testBit k
  · cases h3 : (st j).testBit k
    · rw [h1, h3] at hb; exact absurd rfl hb
    · exact key j i jF iF bj bi h3 h1
  · cases h3 : (st j).testBit k
    · exact key i j iF jF bi bj h1 h3
    · rw [h1, h3] at hb; exact absurd rfl hb
theorem pow24 {F : Nat} (hF : F ≤ 12) : 2 ^ F ≤ 2 ^ 24 := Nat.pow_le_pow_right (by decide) (by omega)
/-- bounds: enough looks to tell them apart, and never more than one less than there are -/
theorem lk_bd {st : Nat → Nat} {F m : Nat} (hd : ∀ i j, i < F → j < F → st i = st j → i = j) (hl : ∀ i, i < F → st i < 2 ^ m) (hF : F ≤ 12) : ∀ N S, S < N → S ≠ 0 → S < 2 ^ F → lk st F m S + 1 ≤ pcn S ∧ pcn S ≤ 2 ^ lk st F m S := by
  intro N
  induction N with
  | zero => intro S h; omega
  | succ N ih =>
    intro S hN h0 hS
    have p24 := pow24 hF
    have pp := pcn_pos h0 (by omega)
    have vm : ∀ a b, a ≤ vmx a b ∧ b ≤ vmx a b ∧ (vmx a b = a ∨ vmx a b = b) := fun a b => by unfold vmx; split <;> omega
    have part : ∀ k, S &&& swN st k F ≠ 0 → S &&& swN st k F ≠ S → (lk st F m (S &&& swN st k F) + 1 ≤ pcn (S &&& swN st k F) ∧ pcn (S &&& swN st k F) ≤ 2 ^ lk st F m (S &&& swN st k F)) ∧ (lk st F m (S ^^^ (S &&& swN st k F)) + 1 ≤ pcn (S ^^^ (S &&& swN st k F)) ∧ pcn (S ^^^ (S &&& swN st k F)) ≤ 2 ^ lk st F m (S ^^^ (S &&& swN st k F))) ∧ gk st F (tbl st F m S) S k = 1 + (1 + vmx (lk st F m (S &&& swN st k F)) (lk st F m (S ^^^ (S &&& swN st k F)))) := by
      intro k q0 q1
      obtain ⟨r1, r2, r3⟩ := parts q0 q1
      refine ⟨ih _ (by omega) q0 (by omega), ih _ (by omega) r3 (by omega), ?_⟩
      unfold gk
      rw [if_neg (fun z => z.elim q0 q1), tbl_lk r1, tbl_lk r2]
    by_cases p1 : pcn S = 1
    · have e : lk st F m S = 0 := by unfold lk stp; rw [if_pos p1]
      rw [e, p1]; decide
    · have e : lk st F m S = fd (gk st F (tbl st F m S) S) 99 m := by unfold lk stp; rw [if_neg p1]
      rw [e]
      refine ⟨?_, ?_⟩
      · obtain ⟨k, hk, q0, q1⟩ := split_some hd hl hS hF (by omega)
        obtain ⟨⟨a1, -⟩, ⟨b1, -⟩, g⟩ := part k q0 q1
        obtain ⟨r1, r2, r3⟩ := parts q0 q1
        have := fd_at (gk st F (tbl st F m S) S) 99 hk (by omega)
        have sp := pcn_parts S (swN st k F)
        have c1 := pcn_pos q0 (by omega)
        have c2 := pcn_pos r3 (by omega)
        obtain ⟨v1, v2, v3⟩ := vm (lk st F m (S &&& swN st k F)) (lk st F m (S ^^^ (S &&& swN st k F)))
        omega
      · have pl := (bcN (x := S) (by omega)).2
        have low : ∀ B, (∀ k, k < m → gk st F (tbl st F m S) S k ≠ 0 → pcn S ≤ 2 ^ (gk st F (tbl st F m S) S k - 1)) → B ≤ m → pcn S ≤ 2 ^ fd (gk st F (tbl st F m S) S) 99 B := by
          intro B hB
          induction B with
          | zero => intro _; show pcn S ≤ 2 ^ 99; omega
          | succ B ihB =>
            intro hBm
            have i1 := ihB (by omega)
            rw [fd_s]
            split
            · exact i1
            · rename_i z
              have := hB B (by omega) z
              split
              · exact i1
              · exact this
        refine low m (fun k hk z => ?_) (Nat.le_refl _)
        have q : ¬ (S &&& swN st k F = 0 ∨ S &&& swN st k F = S) := fun w => z (by unfold gk; rw [if_pos w])
        obtain ⟨⟨-, a2⟩, ⟨-, b2⟩, g⟩ := part k (fun w => q (Or.inl w)) (fun w => q (Or.inr w))
        have sp := pcn_parts S (swN st k F)
        obtain ⟨v1, v2, v3⟩ := vm (lk st F m (S &&& swN st k F)) (lk st F m (S ^^^ (S &&& swN st k F)))
        have m1 : 2 ^ lk st F m (S &&& swN st k F) ≤ 2 ^ vmx (lk st F m (S &&& swN st k F)) (lk st F m (S ^^^ (S &&& swN st k F))) := Nat.pow_le_pow_right (by decide) v1
        have m2 : 2 ^ lk st F m (S ^^^ (S &&& swN st k F)) ≤ 2 ^ vmx (lk st F m (S &&& swN st k F)) (lk st F m (S ^^^ (S &&& swN st k F))) := Nat.pow_le_pow_right (by decide) v2
        rw [g, show 1 + (1 + vmx (lk st F m (S &&& swN st k F)) (lk st F m (S ^^^ (S &&& swN st k F)))) - 1 = vmx (lk st F m (S &&& swN st k F)) (lk st F m (S ^^^ (S &&& swN st k F))) + 1 by omega, Nat.pow_succ]
        omega
end LooksP
