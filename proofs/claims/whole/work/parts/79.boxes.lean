/-! ===== parts of a choice; which boxes can take it ===== -/
section BoxesP
/-- the next part below: the greatest one that is less -/
theorem next_part : ∀ (r a p : Nat), a &&& r = a → p &&& r = p → p < a → p ≤ (a - 1) &&& r
  | r, a, p, ha, hp, hl => by
    by_cases o : a % 2 = 1
    · have e : (a - 1) &&& r = a - 1 := Nat.eq_of_testBit_eq (fun i => by
        have hi := congrArg (fun x => x.testBit i) ha
        rw [Nat.testBit_and] at hi
        rw [Nat.testBit_and]
        cases i with
        | zero =>
          rw [Nat.testBit_zero, show (a - 1) % 2 = 0 by omega]; rfl
        | succ i =>
          rw [Nat.testBit_succ, Nat.testBit_succ] at hi
          rw [Nat.testBit_succ, Nat.testBit_succ, show (a - 1) / 2 = a / 2 by omega]
          exact hi)
      rw [e]; omega
    · by_cases r0 : r = 0
      · rw [r0, Nat.and_zero] at ha; omega
      · have ha2 : (a / 2) &&& (r / 2) = a / 2 := by rw [← Nat.and_div_two, ha]
        have hp2 : (p / 2) &&& (r / 2) = p / 2 := by rw [← Nat.and_div_two, hp]
        have ih := next_part (r / 2) (a / 2) (p / 2) ha2 hp2 (by omega)
        have e1 : ((a - 1) &&& r) / 2 = (a / 2 - 1) &&& (r / 2) := by rw [Nat.and_div_two, show (a - 1) / 2 = a / 2 - 1 by omega]
        have e2 : ((a - 1) &&& r) % 2 = r % 2 := by
          have := Nat.and_mod_two_pow (a := a - 1) (b := r) (n := 1)
          rw [Nat.pow_one, show (a - 1) % 2 = 1 by omega] at this
          rw [this]
          have : r % 2 = 0 ∨ r % 2 = 1 := by omega
          rcases this with q | q <;> rw [q] <;> rfl
        have e3 : p % 2 ≤ r % 2 := by
          have := Nat.and_mod_two_pow (a := p) (b := r) (n := 1)
          rw [Nat.pow_one, hp] at this
          rw [this]
          exact Nat.and_le_right
        omega
termination_by r => r
decreasing_by omega
theorem sbs_le {x c : Nat} (h : x &&& c = x) : x ≤ c := by rw [← h]; exact Nat.and_le_right
theorem sub_bit {x c i : Nat} (h : x &&& c = x) (hx : x.testBit i = true) : c.testBit i = true := by
  have := congrArg (fun y => y.testBit i) h
  rw [Nat.testBit_and, hx] at this
  simpa using this
theorem sub_of {x c : Nat} (h : ∀ i, x.testBit i = true → c.testBit i = true) : x &&& c = x := Nat.eq_of_testBit_eq (fun i => by
  rw [Nat.testBit_and]
  cases hx : x.testBit i
  · rfl
  · rw [h i hx]; rfl)
theorem and_sub (a r : Nat) : (a &&& r) &&& r = a &&& r := by rw [Nat.and_assoc, Nat.and_self]
/-- some part of c does -/
def sbE (c : Nat) (p : Nat → Bool) : Bool := decide (sE (fun x => if x &&& c = x ∧ p x = true then 1 else 0) (c + 1) ≠ 0)
theorem sbE_iff {c : Nat} {p : Nat → Bool} : sbE c p = true ↔ ∃ x, x &&& c = x ∧ p x = true := by
  unfold sbE
  rw [decide_eq_true_eq]
  constructor
  · intro h
    obtain ⟨i, hi, h2⟩ := sE_pos h
    refine ⟨i, ?_⟩
    exact Classical.byContradiction fun z => h2 (if_neg z)
  · rintro ⟨x, h1, h2⟩ z
    have := sE_part (fun x => if x &&& c = x ∧ p x = true then 1 else 0) (show x < c + 1 by have := sbs_le h1; omega)
    rw [z, if_pos ⟨h1, h2⟩] at this
    omega
def cnF (g : Nat → Nat → Bool) (B : Nat) : Nat → Nat → Bool
  | 0, c => decide (c = 0)
  | k + 1, c => if B.testBit k = true then sbE c (fun x => g k x && cnF g B k (c ^^^ x)) else cnF g B k c
theorem sbE_cong {c : Nat} {p p' : Nat → Bool} (h : ∀ x, x &&& c = x → p x = p' x) : sbE c p = sbE c p' := by
  unfold sbE
  congr 2
  refine sE_cong (n := c + 1) (fun x _ => ?_)
  by_cases q : x &&& c = x
  · rw [h x q]
  · rw [if_neg (fun z => q z.1), if_neg (fun z => q z.1)]
theorem cnF_cong {g : Nat → Nat → Bool} {B B' : Nat} : ∀ (k : Nat), (∀ b, b < k → B.testBit b = B'.testBit b) → ∀ c, cnF g B k c = cnF g B' k c
  | 0, _, _ => rfl
  | k + 1, h, c => by
    have ih := cnF_cong (g := g) k (fun b hb => h b (by omega))
    show (if B.testBit k = true then _ else _) = (if B'.testBit k = true then _ else _)
    rw [h k (by omega), ih c, sbE_cong (p' := fun x => g k x && cnF g B' k (c ^^^ x)) (fun x _ => by rw [ih])]
theorem cnF_skip {g : Nat → Nat → Bool} {B : Nat} {k : Nat} : ∀ m, (∀ b, k ≤ b → b < k + m → B.testBit b = false) → ∀ c, cnF g B (k + m) c = cnF g B k c
  | 0, _, _ => rfl
  | m + 1, h, c => by
    show (if B.testBit (k + m) = true then _ else cnF g B (k + m) c) = _
    rw [if_neg (by rw [h (k + m) (by omega) (by omega)]; decide)]
    exact cnF_skip m (fun b h1 h2 => h b h1 (by omega)) c
/-- the highest box, + 1 -/
def hb (B : Nat) : Nat → Nat
  | 0 => 0
  | k + 1 => if B.testBit k = true then k + 1 else hb B k
theorem hb_yes {B : Nat} : ∀ {k}, hb B k ≠ 0 → hb B k ≤ k ∧ B.testBit (hb B k - 1) = true ∧ ∀ b, hb B k ≤ b → b < k → B.testBit b = false
  | 0, h => absurd rfl h
  | k + 1, h => by
    by_cases c : B.testBit k = true
    · have e : hb B (k + 1) = k + 1 := if_pos c
      rw [e]; exact ⟨Nat.le_refl _, c, fun b h1 h2 => by omega⟩
    · have e : hb B (k + 1) = hb B k := if_neg c
      rw [e] at h ⊢
      obtain ⟨a1, a2, a3⟩ := hb_yes h
      refine ⟨by omega, a2, fun b h1 h2 => ?_⟩
      by_cases d : b = k
      · rw [d]; simpa using c
      · exact a3 b h1 (by omega)
theorem hb_no {B : Nat} : ∀ {k}, hb B k = 0 → ∀ b, b < k → B.testBit b = false
  | 0, _, b, hb => absurd hb (Nat.not_lt_zero b)
  | k + 1, h, b, hb' => by
    by_cases c : B.testBit k = true
    · have e : hb B (k + 1) = k + 1 := if_pos c
      rw [e] at h; cases h
    · have e : hb B (k + 1) = hb B k := if_neg c
      rw [e] at h
      by_cases d : b = k
      · rw [d]; simpa using c
      · exact hb_no h b (by omega)
def del (B t : Nat) : Nat := B ^^^ 2 ^ t
theorem del_bit {B t i : Nat} (h : B.testBit t = true) : (del B t).testBit i = (B.testBit i && !(decide (t = i))) := by
  unfold del
  rw [Nat.testBit_xor, Nat.testBit_two_pow]
  by_cases e : t = i
  · subst e; rw [h, decide_eq_true rfl]; rfl
  · rw [decide_eq_false e]; simp
theorem del_lt {B t : Nat} (h : B.testBit t = true) : del B t < B := by
  have h1 : del B t &&& B = del B t := sub_of (fun i hi => by rw [del_bit h, Bool.and_eq_true] at hi; exact hi.1)
  refine Nat.lt_of_le_of_ne (sbs_le h1) (fun z => ?_)
  have := congrArg (fun x => x.testBit t) z
  rw [del_bit h, h, decide_eq_true rfl] at this
  cases this
/-- by the highest box -/
theorem cnF_top {g : Nat → Nat → Bool} {B k : Nat} (c : Nat) : cnF g B k c = if hb B k = 0 then decide (c = 0) else sbE c (fun x => g (hb B k - 1) x && cnF g (del B (hb B k - 1)) k (c ^^^ x)) := by
  by_cases z : hb B k = 0
  · rw [if_pos z]
    have := cnF_skip (g := g) (B := B) (k := 0) k (fun b _ h2 => hb_no z b (by omega)) c
    rw [Nat.zero_add] at this
    exact this
  · rw [if_neg z]
    obtain ⟨a1, a2, a3⟩ := hb_yes z
    obtain ⟨t, et⟩ : ∃ t, hb B k = t + 1 := ⟨hb B k - 1, by omega⟩
    rw [et] at a1 a2 a3 ⊢
    rw [Nat.add_sub_cancel] at a2 ⊢
    have s1 := cnF_skip (g := g) (B := B) (k := t + 1) (k - (t + 1)) (fun b h1 h2 => a3 b h1 (by omega)) c
    rw [show t + 1 + (k - (t + 1)) = k by omega] at s1
    rw [s1]
    show (if B.testBit t = true then sbE c (fun x => g t x && cnF g B t (c ^^^ x)) else _) = _
    rw [if_pos a2]
    refine sbE_cong (fun x _ => ?_)
    congr 1
    have s2 := cnF_skip (g := g) (B := del B t) (k := t) (k - t) (fun b h1 h2 => by
      rw [del_bit a2]
      by_cases e : t = b
      · rw [decide_eq_true e]; simp
      · rw [a3 b (by omega) (by omega)]; rfl) (c ^^^ x)
    rw [show t + (k - t) = k by omega] at s2
    rw [s2]
    exact cnF_cong t (fun b hb' => by rw [del_bit a2, decide_eq_false (show ¬ t = b by omega)]; simp) _
end BoxesP
