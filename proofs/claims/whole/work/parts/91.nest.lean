/-! ===== nests ===== -/
section NestP
/-- the first of the greatest: (place + 1, value); (0, 0) if all are 0 -/
def gmx (f : Nat → Nat) : Nat → Nat × Nat
  | 0 => (0, 0)
  | k + 1 => if (gmx f k).2 < f k then (k + 1, f k) else gmx f k
theorem gmx_s (f : Nat → Nat) (k : Nat) : gmx f (k + 1) = if (gmx f k).2 < f k then (k + 1, f k) else gmx f k := rfl
theorem gmx_ge (f : Nat → Nat) : ∀ {n k : Nat}, k < n → f k ≤ (gmx f n).2
  | 0, k, h => absurd h (Nat.not_lt_zero k)
  | n + 1, k, h => by
    rw [gmx_s]
    by_cases e : k = n
    · subst e; split
      · exact Nat.le_refl _
      · omega
    · have := gmx_ge f (n := n) (k := k) (by omega)
      split
      · show f k ≤ f n; omega
      · exact this
theorem gmx_yes (f : Nat → Nat) : ∀ {n : Nat}, (gmx f n).2 ≠ 0 → (gmx f n).1 ≠ 0 ∧ (gmx f n).1 ≤ n ∧ f ((gmx f n).1 - 1) = (gmx f n).2 ∧ ∀ k, k < (gmx f n).1 - 1 → f k < (gmx f n).2
  | 0, h => absurd rfl h
  | n + 1, h => by
    rw [gmx_s] at h ⊢
    by_cases c : (gmx f n).2 < f n
    · rw [if_pos c]
      refine ⟨Nat.succ_ne_zero _, Nat.le_refl _, rfl, fun k hk => ?_⟩
      have := gmx_ge f (n := n) (k := k) (by simpa using hk)
      show f k < f n
      omega
    · rw [if_neg c] at h ⊢
      obtain ⟨a, b, d, e⟩ := gmx_yes f h
      exact ⟨a, by omega, d, e⟩
theorem gmx_0 (f : Nat → Nat) : ∀ {n : Nat}, (gmx f n).2 = 0 → gmx f n = (0, 0)
  | 0, _ => rfl
  | n + 1, h => by
    rw [gmx_s] at h ⊢
    by_cases c : (gmx f n).2 < f n
    · rw [if_pos c] at h
      have : f n = 0 := h
      omega
    · rw [if_neg c] at h ⊢; exact gmx_0 f h
theorem gmx_cong {f g : Nat → Nat} : ∀ {n : Nat}, (∀ k, k < n → f k = g k) → gmx f n = gmx g n
  | 0, _ => rfl
  | n + 1, h => by rw [gmx_s, gmx_s, gmx_cong (n := n) (fun k hk => h k (by omega)), h n (by omega)]
/-- l inside b; with it inside, b inside others -/
def inN (tv : Nat → Nat → Nat) (l b : Nat) : Bool := decide (tv l 1 ≤ tv b 4) && (decide (tv l 2 ≤ tv b 6) && decide (tv l 0 ≤ tv b 0 * tv b 5 / 2 ^ 1))
def onN (tv : Nat → Nat → Nat) (l b : Nat) : Bool := decide (tv l 0 ≤ tv b 0 * tv b 5 / 2 ^ 2)
def cnN (tv : Nat → Nat → Nat) (nB N l b : Nat) : Bool := !(N.testBit b) && (inN tv l b && decide (wB tv nB N ≤ tv b 6))
def mwF (tv : Nat → Nat → Nat) (nB : Nat) (R : Nat → Nat → Nat) (N l b : Nat) : Nat := if cnN tv nB N l b = true then (if onN tv l b = true then 1 + R (N ||| 2 ^ b) b else 1) else 0
def mr (tv : Nat → Nat → Nat) (nB : Nat) : Nat → Nat → Nat → Nat
  | 0, _, _ => 0
  | f + 1, N, l => (gmx (mwF tv nB (mr tv nB f) N l) nB).2
def mrG (tv : Nat → Nat → Nat) (nB f N l : Nat) : Nat → Nat × Nat := gmx (mwF tv nB (mr tv nB f) N l)
def np (tv : Nat → Nat → Nat) (nB : Nat) : Nat → Nat → Nat → Nat → Nat
  | 0, _, _, _ => 0
  | f + 1, N, l, 0 => (mrG tv nB f N l nB).1 - 1
  | f + 1, N, l, t + 1 => np tv nB f (N ||| 2 ^ ((mrG tv nB f N l nB).1 - 1)) ((mrG tv nB f N l nB).1 - 1) t
theorem mr_le (tv : Nat → Nat → Nat) (nB : Nat) : ∀ f N l, mr tv nB f N l ≤ f
  | 0, _, _ => Nat.le_refl _
  | f + 1, N, l => by
    show (gmx (mwF tv nB (mr tv nB f) N l) nB).2 ≤ f + 1
    by_cases z : (gmx (mwF tv nB (mr tv nB f) N l) nB).2 = 0
    · omega
    · obtain ⟨-, -, e, -⟩ := gmx_yes _ z
      have key : ∀ b, mwF tv nB (mr tv nB f) N l b ≤ f + 1 := fun b => by
        have := mr_le tv nB f (N ||| 2 ^ b) b
        unfold mwF
        split
        · split <;> omega
        · omega
      rw [← e]; exact key _
theorem cN_add {nB N b : Nat} (hb : b < nB) (t : N.testBit b = false) : cN nB (N ||| 2 ^ b) = cN nB N + 1 := by
  have dj : ∀ i, ¬ (N.testBit i = true ∧ (2 ^ b).testBit i = true) := fun i w => by
    obtain ⟨w1, w2⟩ := w
    rw [Nat.testBit_two_pow, decide_eq_true_eq] at w2
    rw [← w2, t] at w1; cases w1
  have e : ∀ B, cN nB B = Pr (fun _ => 1) nB B := fun _ => rfl
  rw [e, e, Pr_split dj, Pr_one hb]
theorem wB_add {tv : Nat → Nat → Nat} {nB N b : Nat} (hb : b < nB) (t : N.testBit b = false) : wB tv nB (N ||| 2 ^ b) = wB tv nB N + tv b 2 := by
  have dj : ∀ i, ¬ (N.testBit i = true ∧ (2 ^ b).testBit i = true) := fun i w => by
    obtain ⟨w1, w2⟩ := w
    rw [Nat.testBit_two_pow, decide_eq_true_eq] at w2
    rw [← w2, t] at w1; cases w1
  have e : ∀ B, wB tv nB B = Pr (fun b => tv b 2) nB B := fun _ => rfl
  rw [e, e, Pr_split dj, Pr_one hb]
theorem cN_full {nB N b : Nat} (hb : b < nB) (h : nB ≤ cN nB N) : N.testBit b = true := by
  cases t : N.testBit b
  · have : cN nB N < sE (fun _ => 1) nB := sE_str (i := b) (fun k _ => by split <;> omega) hb (by rw [t]; decide)
    have e : ∀ n, sE (fun _ => 1) n = n := fun n => by
      induction n with
      | zero => rfl
      | succ n ih => rw [sE_s, ih]
    rw [e] at this; omega
  · rfl
theorem w_in {tv : Nat → Nat → Nat} {nB N l : Nat} (hl : l < nB) (t : N.testBit l = true) : tv l 2 ≤ wB tv nB N := by
  have := sE_part (fun b => if N.testBit b = true then tv b 2 else 0) hl
  rw [if_pos t] at this
  exact this
theorem and_pow {N b : Nat} : N &&& 2 ^ b = if N.testBit b = true then 2 ^ b else 0 := Nat.eq_of_testBit_eq (fun i => by
  rw [Nat.testBit_and, Nat.testBit_two_pow]
  by_cases e : b = i
  · subst e
    cases t : N.testBit b
    · rw [if_neg (by decide), Nat.zero_testBit]; rfl
    · rw [if_pos rfl, Nat.testBit_two_pow, decide_eq_true rfl]; rfl
  · rw [decide_eq_false e, Bool.and_false]
    split
    · rw [Nat.testBit_two_pow, decide_eq_false e]
    · rw [Nat.zero_testBit])
end NestP
