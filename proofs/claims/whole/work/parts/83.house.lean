/-! ===== households: pure part ===== -/
section HouseP
def gMono (g : Nat → Nat → Bool) : Prop := ∀ b x y, x &&& y = x → g b y = true → g b x = true
theorem psub {c x : Nat} : (c ^^^ x) &&& c = c ^^^ x ↔ x &&& c = x := by
  constructor
  · intro h
    refine sub_of (fun i hi => ?_)
    cases hc : c.testBit i
    · have := sub_bit (i := i) h (by rw [Nat.testBit_xor, hc, hi]; rfl)
      rw [hc] at this; cases this
    · rfl
  · intro h
    refine sub_of (fun i hi => ?_)
    rw [Nat.testBit_xor] at hi
    cases hc : c.testBit i
    · rw [hc] at hi
      have := sub_bit (i := i) h (by simpa using hi)
      rw [hc] at this; cases this
    · rfl
theorem cn_any {g : Nat → Nat → Bool} {B b : Nat} (hB : B.testBit b = true) : ∀ k, b < k → ∀ c, cnF g B k c = true ↔ ∃ x, x &&& c = x ∧ g b x = true ∧ cnF g (del B b) k (c ^^^ x) = true
  | 0, h => absurd h (Nat.not_lt_zero b)
  | k + 1, h => by
    intro c
    by_cases e : b = k
    · subst e
      show (if B.testBit b = true then sbE c (fun x => g b x && cnF g B b (c ^^^ x)) else _) = true ↔ _
      rw [if_pos hB, sbE_iff]
      have ed : ∀ y, cnF g (del B b) (b + 1) y = cnF g B b y := fun y => by
        show (if (del B b).testBit b = true then _ else cnF g (del B b) b y) = _
        rw [if_neg (by rw [del_bit hB, decide_eq_true rfl]; simp)]
        exact cnF_cong b (fun i hi => by rw [del_bit hB, decide_eq_false (show ¬ b = i by omega)]; simp) y
      constructor
      · rintro ⟨x, x1, x2⟩
        rw [Bool.and_eq_true] at x2
        exact ⟨x, x1, x2.1, by rw [ed]; exact x2.2⟩
      · rintro ⟨x, x1, x2, x3⟩
        rw [ed] at x3
        exact ⟨x, x1, by rw [x2, x3]; rfl⟩
    · have ih := cn_any (g := g) hB k (by omega)
      have tk : (del B b).testBit k = B.testBit k := by rw [del_bit hB, decide_eq_false e]; simp
      by_cases t : B.testBit k = true
      · have s1 : cnF g B (k + 1) c = sbE c (fun x => g k x && cnF g B k (c ^^^ x)) := if_pos t
        have s2 : ∀ y, cnF g (del B b) (k + 1) y = sbE y (fun x => g k x && cnF g (del B b) k (y ^^^ x)) := fun y => if_pos (by rw [tk]; exact t)
        rw [s1, sbE_iff]
        constructor
        · rintro ⟨x, x1, x2⟩
          rw [Bool.and_eq_true] at x2
          obtain ⟨y, y1, y2, y3⟩ := (ih (c ^^^ x)).mp x2.2
          have ys : y &&& c = y := sub_of (fun i hi => sub_bit (psub.mpr x1) (sub_bit y1 hi))
          refine ⟨y, ys, y2, ?_⟩
          rw [s2, sbE_iff]
          refine ⟨x, sub_of (fun i hi => ?_), ?_⟩
          · rw [Nat.testBit_xor, sub_bit x1 hi]
            cases hy : y.testBit i
            · rfl
            · have := sub_bit y1 hy
              rw [Nat.testBit_xor, sub_bit x1 hi, hi] at this; cases this
          · rw [x2.1, Bool.true_and, Nat.xor_assoc, Nat.xor_comm y x, ← Nat.xor_assoc]; exact y3
        · rintro ⟨y, y1, y2, y3⟩
          rw [s2, sbE_iff] at y3
          obtain ⟨x, x1, x2⟩ := y3
          rw [Bool.and_eq_true] at x2
          have xs : x &&& c = x := sub_of (fun i hi => sub_bit (psub.mpr y1) (sub_bit x1 hi))
          refine ⟨x, xs, ?_⟩
          rw [x2.1, Bool.true_and]
          refine (ih (c ^^^ x)).mpr ⟨y, sub_of (fun i hi => ?_), y2, ?_⟩
          · rw [Nat.testBit_xor, sub_bit y1 hi]
            cases hx : x.testBit i
            · rfl
            · have := sub_bit x1 hx
              rw [Nat.testBit_xor, sub_bit y1 hi, hi] at this; cases this
          · rw [Nat.xor_assoc, Nat.xor_comm x y, ← Nat.xor_assoc]; exact x2.2
      · have s1 : cnF g B (k + 1) c = cnF g B k c := if_neg t
        have s2 : ∀ y, cnF g (del B b) (k + 1) y = cnF g (del B b) k y := fun y => if_neg (by rw [tk]; exact t)
        rw [s1, ih c]
        constructor
        · rintro ⟨x, x1, x2, x3⟩; exact ⟨x, x1, x2, by rw [s2]; exact x3⟩
        · rintro ⟨x, x1, x2, x3⟩; exact ⟨x, x1, x2, by rw [s2] at x3; exact x3⟩
theorem cn_mono {g : Nat → Nat → Bool} (hg : gMono g) {B : Nat} : ∀ k {c c'}, c' &&& c = c' → cnF g B k c = true → cnF g B k c' = true
  | 0, c, c', hs, h => by
    have : c = 0 := of_decide_eq_true h
    rw [this, Nat.and_zero] at hs
    exact decide_eq_true hs.symm
  | k + 1, c, c', hs, h => by
    by_cases t : B.testBit k = true
    · have s1 : ∀ y, cnF g B (k + 1) y = sbE y (fun x => g k x && cnF g B k (y ^^^ x)) := fun y => if_pos t
      rw [s1, sbE_iff] at h ⊢
      obtain ⟨x, x1, x2⟩ := h
      rw [Bool.and_eq_true] at x2
      refine ⟨x &&& c', and_sub x c', ?_⟩
      rw [hg k (x &&& c') x (sub_of (fun i hi => by rw [Nat.testBit_and, Bool.and_eq_true] at hi; exact hi.1)) x2.1, Bool.true_and]
      refine cn_mono hg k (sub_of (fun i hi => ?_)) x2.2
      rw [Nat.testBit_xor, Nat.testBit_and] at hi
      rw [Nat.testBit_xor]
      cases hc' : c'.testBit i
      · rw [hc'] at hi; simp at hi
      · rw [hc'] at hi
        rw [sub_bit hs hc']
        cases hx : x.testBit i
        · rfl
        · rw [hx] at hi; cases hi
    · have s1 : ∀ y, cnF g B (k + 1) y = cnF g B k y := fun y => if_neg t
      rw [s1] at h ⊢
      exact cn_mono hg k hs h
theorem cn_0 {g : Nat → Nat → Bool} (g0 : ∀ b, g b 0 = true) {B : Nat} : ∀ k, cnF g B k 0 = true
  | 0 => decide_eq_true rfl
  | k + 1 => by
    by_cases t : B.testBit k = true
    · have s1 : cnF g B (k + 1) 0 = sbE 0 (fun x => g k x && cnF g B k (0 ^^^ x)) := if_pos t
      rw [s1, sbE_iff]
      exact ⟨0, Nat.and_self 0, by rw [g0, Nat.xor_self, cn_0 g0 k]; rfl⟩
    · have s1 : cnF g B (k + 1) 0 = cnF g B k 0 := if_neg t
      rw [s1]; exact cn_0 g0 k
/-- two lots of boxes, two lots of things -/
theorem cn_join {g : Nat → Nat → Bool} {B0 B1 : Nat} (hd : ∀ i, ¬ (B0.testBit i = true ∧ B1.testBit i = true)) : ∀ k {c0 c1}, (∀ i, ¬ (c0.testBit i = true ∧ c1.testBit i = true)) → cnF g B0 k c0 = true → cnF g B1 k c1 = true → cnF g (B0 ||| B1) k (c0 ||| c1) = true
  | 0, c0, c1, _, h0, h1 => by
    have e0 : c0 = 0 := of_decide_eq_true h0
    have e1 : c1 = 0 := of_decide_eq_true h1
    rw [e0, e1]; exact decide_eq_true rfl
  | k + 1, c0, c1, hc, h0, h1 => by
    have key : ∀ {A0 A1 x y : Nat}, (∀ i, ¬ (x.testBit i = true ∧ y.testBit i = true)) → (∀ z, z &&& x = z → (x ||| y) ^^^ z = (x ^^^ z) ||| y ∧ z &&& (x ||| y) = z ∧ ∀ i, ¬ ((x ^^^ z).testBit i = true ∧ y.testBit i = true)) := by
      intro A0 A1 x y hxy z hz
      refine ⟨Nat.eq_of_testBit_eq (fun i => ?_), sub_of (fun i hi => by rw [Nat.testBit_or, sub_bit hz hi]; rfl), fun i hi => ?_⟩
      · rw [Nat.testBit_xor, Nat.testBit_or, Nat.testBit_or, Nat.testBit_xor]
        cases h1 : x.testBit i
        · cases h2 : z.testBit i
          · cases y.testBit i <;> rfl
          · have := sub_bit hz h2; rw [h1] at this; cases this
        · cases h2 : y.testBit i
          · cases z.testBit i <;> rfl
          · exact absurd ⟨h1, h2⟩ (hxy i)
      · rw [Nat.testBit_xor] at hi
        cases h1 : x.testBit i
        · rw [h1] at hi
          have := sub_bit hz (show z.testBit i = true by simpa using hi.1)
          rw [h1] at this; cases this
        · exact hxy i ⟨h1, hi.2⟩
    by_cases t0 : B0.testBit k = true
    · have t1 : ¬ B1.testBit k = true := fun z => hd k ⟨t0, z⟩
      have s0 : cnF g B0 (k + 1) c0 = sbE c0 (fun x => g k x && cnF g B0 k (c0 ^^^ x)) := if_pos t0
      have s1 : cnF g B1 (k + 1) c1 = cnF g B1 k c1 := if_neg t1
      have s2 : cnF g (B0 ||| B1) (k + 1) (c0 ||| c1) = sbE (c0 ||| c1) (fun x => g k x && cnF g (B0 ||| B1) k ((c0 ||| c1) ^^^ x)) := if_pos (by rw [Nat.testBit_or, t0]; rfl)
      rw [s0, sbE_iff] at h0
      rw [s1] at h1
      rw [s2, sbE_iff]
      obtain ⟨x, x1, x2⟩ := h0
      rw [Bool.and_eq_true] at x2
      obtain ⟨e1, e2, e3⟩ := key (A0 := 0) (A1 := 0) hc x x1
      exact ⟨x, e2, by rw [x2.1, e1, Bool.true_and]; exact cn_join hd k e3 x2.2 h1⟩
    · have s0 : cnF g B0 (k + 1) c0 = cnF g B0 k c0 := if_neg t0
      rw [s0] at h0
      by_cases t1 : B1.testBit k = true
      · have s1 : cnF g B1 (k + 1) c1 = sbE c1 (fun x => g k x && cnF g B1 k (c1 ^^^ x)) := if_pos t1
        have s2 : cnF g (B0 ||| B1) (k + 1) (c0 ||| c1) = sbE (c0 ||| c1) (fun x => g k x && cnF g (B0 ||| B1) k ((c0 ||| c1) ^^^ x)) := if_pos (by rw [Nat.testBit_or, t1]; simp)
        rw [s1, sbE_iff] at h1
        rw [s2, sbE_iff]
        obtain ⟨x, x1, x2⟩ := h1
        rw [Bool.and_eq_true] at x2
        obtain ⟨e1, e2, e3⟩ := key (A0 := 0) (A1 := 0) (x := c1) (y := c0) (fun i z => hc i ⟨z.2, z.1⟩) x x1
        refine ⟨x, by rw [Nat.or_comm]; exact e2, ?_⟩
        rw [x2.1, Bool.true_and, Nat.or_comm c0 c1, e1, Nat.or_comm (c1 ^^^ x) c0]
        exact cn_join hd k (fun i z => e3 i ⟨z.2, z.1⟩) h0 x2.2
      · have s1 : cnF g B1 (k + 1) c1 = cnF g B1 k c1 := if_neg t1
        have s2 : cnF g (B0 ||| B1) (k + 1) (c0 ||| c1) = cnF g (B0 ||| B1) k (c0 ||| c1) := if_neg (by rw [Nat.testBit_or]; cases h2 : B0.testBit k <;> cases h3 : B1.testBit k <;> first | decide | exact absurd h2 t0 | exact absurd h3 t1)
        rw [s1] at h1
        rw [s2]
        exact cn_join hd k hc h0 h1
/-- a box that takes a part takes a greatest one -/
def noMore (g : Nat → Nat → Bool) (b p r : Nat) : Prop := ∀ i, (r ^^^ p).testBit i = true → g b (p ||| 2 ^ i) = false
theorem grow {g : Nat → Nat → Bool} {b r : Nat} : ∀ N a, r - a < N → a &&& r = a → g b a = true → ∃ p, p &&& r = p ∧ a &&& p = a ∧ g b p = true ∧ noMore g b p r
  | 0, a, h, _, _ => absurd h (Nat.not_lt_zero _)
  | N + 1, a, h, ha, ga => by
    by_cases z : noMore g b a r
    · exact ⟨a, ha, Nat.and_self a, ga, z⟩
    · have : ∃ i, (r ^^^ a).testBit i = true ∧ g b (a ||| 2 ^ i) = true := Classical.byContradiction fun w => z (fun i hi => by
        cases hg : g b (a ||| 2 ^ i)
        · rfl
        · exact absurd ⟨i, hi, hg⟩ w)
      obtain ⟨i, hi, hg⟩ := this
      have ri : r.testBit i = true := by
        have := sub_bit (psub.mpr ha) hi
        exact this
      have ai : a.testBit i = false := by
        rw [Nat.testBit_xor, ri] at hi
        cases h2 : a.testBit i
        · rfl
        · rw [h2] at hi; cases hi
      have s1 : (a ||| 2 ^ i) &&& r = a ||| 2 ^ i := sub_of (fun j hj => by
        rw [orb] at hj
        cases h2 : a.testBit j
        · rw [h2, Bool.false_or, decide_eq_true_eq] at hj
          rw [← hj]; exact ri
        · exact sub_bit ha h2)
      have s2 : a &&& (a ||| 2 ^ i) = a := sub_of (fun j hj => by rw [orb, hj]; rfl)
      have lt : a < a ||| 2 ^ i := Nat.lt_of_le_of_ne (sbs_le s2) (fun w => by
        have := congrArg (fun x => x.testBit i) w
        rw [orb, ai, decide_eq_true rfl] at this
        cases this)
      have le := sbs_le s1
      obtain ⟨p, p1, p2, p3, p4⟩ := grow N (a ||| 2 ^ i) (by omega) s1 hg
      exact ⟨p, p1, sub_of (fun j hj => sub_bit p2 (sub_bit s2 hj)), p3, p4⟩
/-- the lower boxes of a lot, and the upper ones -/
theorem low_bit {B b i : Nat} : (B % 2 ^ b).testBit i = (decide (i < b) && B.testBit i) := Nat.testBit_mod_two_pow B b i
def upB (B b : Nat) : Nat := B ^^^ (B % 2 ^ b)
theorem up_bit {B b i : Nat} : (upB B b).testBit i = (decide (b ≤ i) && B.testBit i) := by
  unfold upB
  rw [Nat.testBit_xor, low_bit]
  by_cases c : i < b
  · rw [decide_eq_true c, decide_eq_false (show ¬ b ≤ i by omega)]; simp
  · rw [decide_eq_false c, decide_eq_true (show b ≤ i by omega)]; simp
def Pr (pr : Nat → Nat) (nB B : Nat) : Nat := sE (fun b => if B.testBit b = true then pr b else 0) nB
theorem Pr_low_s {pr : Nat → Nat} {nB B b : Nat} (hb : b < nB) : Pr pr nB (B % 2 ^ (b + 1)) = Pr pr nB (B % 2 ^ b) + (if B.testBit b = true then pr b else 0) := by
  have e1 : ∀ n, b < n → sE (fun j => if b = j then (if B.testBit b = true then pr b else 0) else 0) n = (if B.testBit b = true then pr b else 0) := by
    intro n
    induction n with
    | zero => intro q; omega
    | succ n ih =>
      intro q
      rw [sE_s]
      by_cases e : b = n
      · rw [if_pos e, sE_zero (fun j hj => if_neg (by omega)), Nat.zero_add]
      · rw [if_neg e, ih (by omega), Nat.add_zero]
  unfold Pr
  rw [← e1 nB hb, ← sE_add]
  refine sE_cong (n := nB) (fun j hj => ?_)
  rw [low_bit, low_bit]
  by_cases e : b = j
  · subst e
    show (if (decide (b < b + 1) && B.testBit b) = true then pr b else 0) = (if (decide (b < b) && B.testBit b) = true then pr b else 0) + (if b = b then (if B.testBit b = true then pr b else 0) else 0)
    rw [decide_eq_true (Nat.lt_succ_self b), decide_eq_false (Nat.lt_irrefl b), Bool.true_and, Bool.false_and, if_pos (show b = b from rfl), if_neg (show ¬ (false = true) by decide), Nat.zero_add]
  · show (if (decide (j < b + 1) && B.testBit j) = true then pr j else 0) = (if (decide (j < b) && B.testBit j) = true then pr j else 0) + (if b = j then (if B.testBit b = true then pr b else 0) else 0)
    rw [if_neg e, show decide (j < b + 1) = decide (j < b) from decide_eq_decide.mpr (by omega)]; rfl
theorem Pr_split {pr : Nat → Nat} {nB B0 B1 : Nat} (hd : ∀ i, ¬ (B0.testBit i = true ∧ B1.testBit i = true)) : Pr pr nB (B0 ||| B1) = Pr pr nB B0 + Pr pr nB B1 := by
  unfold Pr
  rw [← sE_add]
  refine sE_cong (n := nB) (fun j hj => ?_)
  rw [Nat.testBit_or]
  cases h0 : B0.testBit j <;> cases h1 : B1.testBit j
  · rfl
  · simp
  · simp
  · exact absurd ⟨h0, h1⟩ (hd j)
theorem Pr_mono {pr : Nat → Nat} {nB B B' : Nat} (h : B &&& B' = B) : Pr pr nB B ≤ Pr pr nB B' := sE_mon (fun j _ => by
  by_cases t : B.testBit j = true
  · rw [if_pos t, if_pos (sub_bit h t)]; exact Nat.le_refl _
  · rw [if_neg t]; exact Nat.zero_le _)
/-- the state of the table while the boxes below b have been offered -/
def SdX (g : Nat → Nat → Bool) (pr : Nat → Nat) (nB n : Nat) (pv : Nat → Nat) (b : Nat) : Prop := ∀ c, c < 2 ^ n → pv c < 1073741824 → ∃ B, B < 2 ^ b ∧ cnF g B nB c = true ∧ Pr pr nB B = pv c
def CpX (g : Nat → Nat → Bool) (pr : Nat → Nat) (nB n : Nat) (Bs : Nat) (pv : Nat → Nat) (b : Nat) : Prop := pv (2 ^ n - 1) ≤ Pr pr nB Bs ∨ ∃ c, c < 2 ^ n ∧ pv c ≤ Pr pr nB (Bs % 2 ^ b) ∧ cnF g (upB Bs b) nB ((2 ^ n - 1) ^^^ c) = true
def bsB (g : Nat → Nat → Bool) (pr : Nat → Nat) (nB n Bs : Nat) : Prop := Bs < 2 ^ nB ∧ cnF g Bs nB (2 ^ n - 1) = true ∧ ∀ B, B < 2 ^ nB → cnF g B nB (2 ^ n - 1) = true → Pr pr nB Bs ≤ Pr pr nB B
theorem CpX_0 {g : Nat → Nat → Bool} {pr : Nat → Nat} {nB n Bs : Nat} {pv : Nat → Nat} (hb : bsB g pr nB n Bs) (h0 : pv 0 = 0) : CpX g pr nB n Bs pv 0 := by
  refine Or.inr ⟨0, Nat.two_pow_pos n, by rw [h0]; exact Nat.zero_le _, ?_⟩
  have e : upB Bs 0 = Bs := by unfold upB; rw [show Bs % 2 ^ 0 = 0 from Nat.mod_one Bs, Nat.xor_zero]
  rw [e, Nat.xor_zero]; exact hb.2.1
theorem CpX_end {g : Nat → Nat → Bool} {pr : Nat → Nat} {nB n Bs : Nat} {pv : Nat → Nat} (hb : bsB g pr nB n Bs) (h : CpX g pr nB n Bs pv nB) : pv (2 ^ n - 1) ≤ Pr pr nB Bs := by
  rcases h with h | ⟨c, hc, h1, h2⟩
  · exact h
  · have e : upB Bs nB = 0 := by unfold upB; rw [Nat.mod_eq_of_lt hb.1, Nat.xor_self]
    rw [e] at h2
    have : cnF g 0 nB ((2 ^ n - 1) ^^^ c) = decide ((2 ^ n - 1) ^^^ c = 0) := by
      have := cnF_skip (g := g) (B := 0) (k := 0) nB (fun b _ _ => Nat.zero_testBit b) ((2 ^ n - 1) ^^^ c)
      rw [Nat.zero_add] at this; exact this
    rw [this, decide_eq_true_eq] at h2
    have ec : c = 2 ^ n - 1 := Nat.eq_of_testBit_eq (fun i => by
      have := congrArg (fun x => x.testBit i) h2
      rw [Nat.testBit_xor, Nat.zero_testBit] at this
      cases h3 : c.testBit i <;> cases h4 : (2 ^ n - 1).testBit i <;> rw [h3, h4] at this <;> first | rfl | cases this)
    rw [ec, Nat.mod_eq_of_lt hb.1] at h1
    exact h1
/-- a box that is not in the best lot changes nothing for it -/
theorem CpX_skip {g : Nat → Nat → Bool} {pr : Nat → Nat} {nB n Bs b : Nat} {pv pv' : Nat → Nat} (h : CpX g pr nB n Bs pv b) (t : Bs.testBit b = false) (le : ∀ c, c < 2 ^ n → pv' c ≤ pv c) : CpX g pr nB n Bs pv' (b + 1) := by
  have e1 : Bs % 2 ^ (b + 1) = Bs % 2 ^ b := Nat.eq_of_testBit_eq (fun i => by
    rw [low_bit, low_bit]
    by_cases e : i = b
    · subst e; rw [t, Bool.and_false, Bool.and_false]
    · rw [show decide (i < b + 1) = decide (i < b) from decide_eq_decide.mpr (by omega)])
  have e2 : upB Bs (b + 1) = upB Bs b := by unfold upB; rw [e1]
  have p := Nat.two_pow_pos n
  unfold CpX
  rw [e1, e2]
  rcases h with h | ⟨c, hc, h1, h2⟩
  · exact Or.inl (Nat.le_trans (le _ (by omega)) h)
  · exact Or.inr ⟨c, hc, Nat.le_trans (le c hc) h1, h2⟩
/-- from the chain's place on: with the next box of the best lot -/
theorem CpX_step {g : Nat → Nat → Bool} (hg : gMono g) {pr : Nat → Nat} (hpr : ∀ b, 0 < pr b) {nB n Bs b c : Nat} {pv : Nat → Nat} (hb : bsB g pr nB n Bs) (hbn : b < nB) (t : Bs.testBit b = true) (hs : SdX g pr nB n pv b) (hc : c < 2 ^ n) (hN : pv c < 1073741824) (h1 : pv c ≤ Pr pr nB (Bs % 2 ^ b)) (h2 : cnF g (upB Bs b) nB ((2 ^ n - 1) ^^^ c) = true) (nr : g b ((2 ^ n - 1) ^^^ c) = false) : ∃ p, p &&& ((2 ^ n - 1) ^^^ c) = p ∧ p ≠ 0 ∧ p ≠ (2 ^ n - 1) ^^^ c ∧ g b p = true ∧ noMore g b p ((2 ^ n - 1) ^^^ c) ∧ cnF g (upB Bs (b + 1)) nB ((2 ^ n - 1) ^^^ (c ||| p)) = true := by
  have ub : (upB Bs b).testBit b = true := by rw [up_bit, t, decide_eq_true (Nat.le_refl b)]; rfl
  have ed : del (upB Bs b) b = upB Bs (b + 1) := Nat.eq_of_testBit_eq (fun i => by
    rw [del_bit ub, up_bit, up_bit]
    by_cases e : b = i
    · subst e; rw [decide_eq_true rfl, decide_eq_false (show ¬ b + 1 ≤ b by omega)]; simp
    · rw [decide_eq_false e, show decide (b ≤ i) = decide (b + 1 ≤ i) from decide_eq_decide.mpr (by omega)]; simp)
  obtain ⟨a, a1, a2, a3⟩ := (cn_any ub nB hbn _).mp h2
  rw [ed] at a3
  obtain ⟨p, p1, p2, p3, p4⟩ := grow (g := g) (b := b) (((2 ^ n - 1) ^^^ c) - a + 1) a (by omega) a1 a2
  have m3 : cnF g (upB Bs (b + 1)) nB (((2 ^ n - 1) ^^^ c) ^^^ p) = true := by
    refine cn_mono hg nB (sub_of (fun i hi => ?_)) a3
    rw [Nat.testBit_xor] at hi ⊢
    cases hr : ((2 ^ n - 1) ^^^ c).testBit i
    · rw [hr] at hi
      have := sub_bit p1 (show p.testBit i = true by simpa using hi)
      rw [hr] at this; cases this
    · rw [hr] at hi
      cases ha : a.testBit i
      · rfl
      · have := sub_bit p2 ha
        rw [this] at hi; cases hi
  have ecp : ((2 ^ n - 1) ^^^ c) ^^^ p = (2 ^ n - 1) ^^^ (c ||| p) := Nat.eq_of_testBit_eq (fun i => by
    rw [Nat.testBit_xor, Nat.testBit_xor, Nat.testBit_xor, Nat.testBit_or]
    cases hcb : c.testBit i
    · cases (2 ^ n - 1).testBit i <;> cases p.testBit i <;> rfl
    · cases hp : p.testBit i
      · cases (2 ^ n - 1).testBit i <;> rfl
      · have := sub_bit p1 hp
        rw [Nat.testBit_xor, hcb, bitAll] at this
        by_cases e : i < n
        · rw [decide_eq_true e] at this; cases this
        · rw [bit_hi hc (by omega)] at hcb; cases hcb)
  refine ⟨p, p1, fun z => ?_, fun z => ?_, p3, p4, by rw [← ecp]; exact m3⟩
  · -- the box would be of no use: a cheaper lot
    rw [z, Nat.xor_zero] at m3
    obtain ⟨B0, q1, q2, q3⟩ := hs c hc hN
    have dj : ∀ i, ¬ (B0.testBit i = true ∧ (upB Bs (b + 1)).testBit i = true) := fun i w => by
      rw [up_bit, Bool.and_eq_true, decide_eq_true_eq] at w
      rw [bit_hi q1 (by omega)] at w; cases w.1
    have dc : ∀ i, ¬ (c.testBit i = true ∧ ((2 ^ n - 1) ^^^ c).testBit i = true) := fun i w => by
      obtain ⟨w1, w2⟩ := w
      rw [Nat.testBit_xor, w1, bitAll] at w2
      by_cases e : i < n
      · rw [decide_eq_true e] at w2; cases w2
      · rw [bit_hi hc (by omega)] at w1; cases w1
    have jn := cn_join dj nB dc q2 m3
    have call : c ||| ((2 ^ n - 1) ^^^ c) = 2 ^ n - 1 := Nat.eq_of_testBit_eq (fun i => by
      rw [Nat.testBit_or, Nat.testBit_xor, bitAll]
      by_cases e : i < n
      · rw [decide_eq_true e]; cases c.testBit i <;> rfl
      · rw [decide_eq_false e, bit_hi hc (by omega)]; rfl)
    rw [call] at jn
    have ul : upB Bs (b + 1) < 2 ^ nB := by
      have : upB Bs (b + 1) &&& Bs = upB Bs (b + 1) := sub_of (fun i hi => by rw [up_bit, Bool.and_eq_true] at hi; exact hi.2)
      have := sbs_le this
      exact Nat.lt_of_le_of_lt this hb.1
    have q1' : B0 < 2 ^ nB := Nat.lt_of_lt_of_le q1 (Nat.pow_le_pow_right (by decide) (by omega))
    have best := hb.2.2 _ (Nat.or_lt_two_pow q1' ul) jn
    rw [Pr_split dj, q3] at best
    have sp : Pr pr nB Bs = Pr pr nB (Bs % 2 ^ (b + 1)) + Pr pr nB (upB Bs (b + 1)) := by
      have e : Bs = (Bs % 2 ^ (b + 1)) ||| upB Bs (b + 1) := Nat.eq_of_testBit_eq (fun i => by
        rw [Nat.testBit_or, low_bit, up_bit]
        by_cases w : i < b + 1
        · rw [decide_eq_true w, decide_eq_false (show ¬ b + 1 ≤ i by omega)]; simp
        · rw [decide_eq_false w, decide_eq_true (show b + 1 ≤ i by omega)]; simp)
      refine Eq.trans (congrArg (Pr pr nB) e) (Pr_split (fun i w => ?_))
      rw [low_bit, up_bit, Bool.and_eq_true, Bool.and_eq_true, decide_eq_true_eq, decide_eq_true_eq] at w
      omega
    rw [sp, Pr_low_s hbn, if_pos t] at best
    have := hpr b
    omega
  · rw [z, nr] at p3; cases p3
end HouseP
