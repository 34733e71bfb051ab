/-! ===== the text: what both readers make of it ===== -/
section ReadP
def rSg (T : Nat → Nat) (n p : Nat) : Nat := if p < n then T p else 0
def rAh (T : Nat → Nat) (n p : Nat) : Nat := if p = 0 then 0 else rSg T n (p - 1)
def rLt (c : Nat) : Bool := decide (97 ≤ c ∧ c ≤ 122)
def rDg (c : Nat) : Bool := decide (48 ≤ c ∧ c ≤ 57)
/-- a token begins at p -/
def rBeg (T : Nat → Nat) (n p : Nat) : Bool := !(decide (rSg T n p = 10)) && (!(decide (rSg T n p = 32)) && (!(rLt (rSg T n p) && rLt (rAh T n p)) && !(rDg (rSg T n p) && rDg (rAh T n p))))
def rPL : Nat → List Nat
  | 1 => [98, 111, 120, 35, 98, 121, 35, 108, 105, 100, 35, 116, 105, 109, 101, 115, 35, 119, 101, 105, 103, 104, 116, 35, 98, 101, 97, 114, 115, 35, 59]
  | 2 => [116, 104, 105, 110, 103, 35, 98, 121, 35, 119, 101, 105, 103, 104, 116, 35, 119, 111, 114, 116, 104, 35, 59]
  | _ => []
def rPN (ln s : Nat) : Nat := (rPL ln).getD s 0
/-- the spot behind the word, and one more; 0 if it is another word -/
def rBw (T : Nat → Nat) (n ln : Nat) : Nat → Nat → Nat → Nat
  | 0, s, _ => if rLt (rPN ln s) = true then 0 else s + 1
  | g + 1, s, p => if rLt (rSg T n p) = true then (if rPN ln s = rSg T n p then rBw T n ln g (s + 1) (p + 1) else 0) else if rLt (rPN ln s) = true then 0 else s + 1
def rDl (T : Nat → Nat) (n : Nat) : Nat → Nat → Nat
  | 0, _ => 0
  | g + 1, p => if rDg (rSg T n p) = true then rDl T n g (p + 1) + 1 else 0
def rVl (T : Nat → Nat) (n p : Nat) : Nat → Nat
  | 0 => 0
  | k + 1 => 10 * rVl T n p k + (rSg T n (p + k) - 48)
def rLn (ln : Nat) : Nat := if ln = 1 then 6 else 4
def rKd (ln nr : Nat) : Nat := if ln = 1 then [0, 1, 4, 5, 2, 6].getD nr 0 else [0, 1, 2, 3].getD nr 0
def rMx (ln nr : Nat) : Nat := if ln = 1 then [99, 99, 99, 64, 99, 9999].getD nr 0 else [999, 99, 99, 99].getD nr 0
def rIn (ln nr v : Nat) : Bool := decide (nr < rLn ln ∧ (if rKd ln nr = 3 then 0 else 1) ≤ v ∧ v ≤ rMx ln nr)
def rUp (tv : Nat → Nat → Nat) (i k v : Nat) : Nat → Nat → Nat := fun a b => if a = i ∧ b = k then v else tv a b
/-- fault, its place, boxes, things, what was told -/
abbrev Zr : Type := Nat × Nat × Nat × Nat × (Nat → Nat → Nat)
def rRn (T : Nat → Nat) (n : Nat) : Nat → Nat → Nat → Nat → Nat → Nat → Nat → (Nat → Nat → Nat) → Zr
  | 0, _, ln, _, _, nB, nT, tv => if ln = 0 then (0, 0, nB, nT, tv) else (2, n, nB, nT, tv)
  | g + 1, p, ln, sp, nr, nB, nT, tv =>
    if rBeg T n p = true then
      if rLt (rSg T n p) = true then
        if ln = 0 then
          if rBw T n 1 (n + 1) 0 p = 0 then
            if rBw T n 2 (n + 1) 0 p = 0 then (2, p, nB, nT, tv)
            else if nT < 16 then rRn T n g (p + 1) 2 (rBw T n 2 (n + 1) 0 p - 1) 0 nB nT tv else (4, p, nB, nT, tv)
          else if nB < 8 then rRn T n g (p + 1) 1 (rBw T n 1 (n + 1) 0 p - 1) 0 nB nT tv else (4, p, nB, nT, tv)
        else if rBw T n ln (n + 1) sp p = 0 then (2, p, nB, nT, tv) else rRn T n g (p + 1) ln (rBw T n ln (n + 1) sp p - 1) nr nB nT tv
      else if rDg (rSg T n p) = true then
        if 4 < rDl T n 5 p then (1, p, nB, nT, tv)
        else if rPN ln sp = 35 then
          if rIn ln nr (rVl T n p (rDl T n 5 p)) = true then rRn T n g (p + 1) ln (sp + 1) (nr + 1) nB nT (rUp tv (if ln = 1 then nB else 8 + nT) (rKd ln nr) (rVl T n p (rDl T n 5 p))) else (3, p, nB, nT, tv)
        else (2, p, nB, nT, tv)
      else if rSg T n p = 59 then
        if rPN ln sp = 59 then rRn T n g (p + 1) 0 0 0 (if ln = 1 then nB + 1 else nB) (if ln = 1 then nT else nT + 1) tv else (2, p, nB, nT, tv)
      else (1, p, nB, nT, tv)
    else rRn T n g (p + 1) ln sp nr nB nT tv
variable {T : Nat → Nat} {n : Nat}
theorem rSg_lt (hT : ∀ p, p < n → T p < 256) (p : Nat) : rSg T n p < 256 := by
  unfold rSg
  split
  · exact hT p (by assumption)
  · omega
theorem rSg_n {p : Nat} (h : n ≤ p) : rSg T n p = 0 := if_neg (by omega)
theorem rSg_y {p : Nat} (h : p < n) : rSg T n p = T p := if_pos h
theorem rLt_iff {c : Nat} : rLt c = true ↔ 97 ≤ c ∧ c ≤ 122 := by unfold rLt; exact decide_eq_true_iff
theorem rDg_iff {c : Nat} : rDg c = true ↔ 48 ≤ c ∧ c ≤ 57 := by unfold rDg; exact decide_eq_true_iff
theorem rLt_in {p : Nat} (h : rLt (rSg T n p) = true) : p < n := by
  rcases Nat.lt_or_ge p n with q | q
  · exact q
  · rw [rSg_n q] at h; exact absurd h (by decide)
theorem rDg_in {p : Nat} (h : rDg (rSg T n p) = true) : p < n := by
  rcases Nat.lt_or_ge p n with q | q
  · exact q
  · rw [rSg_n q] at h; exact absurd h (by decide)
theorem rPN_lt (ln s : Nat) : rPN ln s < 128 := by
  have key : ∀ (l : List Nat), (∀ x ∈ l, x < 128) → l.getD s 0 < 128 := fun l hl => by
    rw [List.getD_eq_getElem?_getD]
    cases hx : l[s]? with
    | none => exact (by decide : 0 < 128)
    | some x => exact hl x (List.mem_of_getElem? hx)
  unfold rPN
  match ln with
  | 0 => exact key [] (fun x hx => by cases hx)
  | 1 => exact key _ (by decide)
  | 2 => exact key _ (by decide)
  | _ + 3 => exact key [] (fun x hx => by cases hx)
theorem rPN_S {ln : Nat} (h : ln ≤ 2) (s : Nat) : (sBy ln).getD s 0 = nI (rPN ln s) ∧ ((sBy ln).length ≤ s → rPN ln s = 0) := by
  have key : ∀ (l : List Nat), (l.map nI).getD s 0 = nI (l.getD s 0) := fun l => by
    rw [List.getD_eq_getElem?_getD, List.getD_eq_getElem?_getD, List.getElem?_map]
    cases l[s]? <;> rfl
  have k2 : ∀ (l : List Nat), (l.map nI).length ≤ s → l.getD s 0 = 0 := fun l hl => by
    rw [List.length_map] at hl
    rw [List.getD_eq_getElem?_getD, List.getElem?_eq_none hl]; rfl
  have e : sBy ln = (rPL ln).map nI := by
    rcases (show ln = 0 ∨ ln = 1 ∨ ln = 2 by omega) with rfl | rfl | rfl <;> rfl
  unfold rPN
  rw [e]
  exact ⟨key _, k2 _⟩
theorem rPN_len {ln s : Nat} (h : rPN ln s ≠ 0) : s < 31 := by
  rcases Nat.lt_or_ge s 31 with q | q
  · exact q
  · exfalso; apply h
    have key : ∀ (l : List Nat), l.length ≤ 31 → l.getD s 0 = 0 := fun l hl => by
      rw [List.getD_eq_getElem?_getD, List.getElem?_eq_none (by omega)]; rfl
    unfold rPN
    match ln with
    | 0 => exact key [] (by decide)
    | 1 => exact key _ (by decide)
    | 2 => exact key _ (by decide)
    | _ + 3 => exact key [] (by decide)
theorem rBw_le {ln : Nat} : ∀ g s p, s ≤ 31 → rBw T n ln g s p ≤ 32 ∧ (rBw T n ln g s p ≠ 0 → s + 1 ≤ rBw T n ln g s p)
  | 0, s, p, h => by
    show (if rLt (rPN ln s) = true then 0 else s + 1) ≤ 32 ∧ ((if rLt (rPN ln s) = true then 0 else s + 1) ≠ 0 → s + 1 ≤ (if rLt (rPN ln s) = true then 0 else s + 1))
    split <;> omega
  | g + 1, s, p, h => by
    show (if rLt (rSg T n p) = true then (if rPN ln s = rSg T n p then rBw T n ln g (s + 1) (p + 1) else 0) else if rLt (rPN ln s) = true then 0 else s + 1) ≤ 32 ∧ ((if rLt (rSg T n p) = true then (if rPN ln s = rSg T n p then rBw T n ln g (s + 1) (p + 1) else 0) else if rLt (rPN ln s) = true then 0 else s + 1) ≠ 0 → s + 1 ≤ (if rLt (rSg T n p) = true then (if rPN ln s = rSg T n p then rBw T n ln g (s + 1) (p + 1) else 0) else if rLt (rPN ln s) = true then 0 else s + 1))
    split
    · split
      · have c1 : rLt (rSg T n p) = true := by assumption
        have c2 : rPN ln s = rSg T n p := by assumption
        have : s < 31 := rPN_len (ln := ln) (by rw [c2]; rw [rLt_iff] at c1; omega)
        have := rBw_le (ln := ln) g (s + 1) (p + 1) (by omega)
        omega
      · omega
    · split <;> omega
theorem rVl_lt (p : Nat) : ∀ k, (∀ i, i < k → rDg (rSg T n (p + i)) = true) → rVl T n p k < 10 ^ k
  | 0, _ => Nat.one_pos
  | k + 1, h => by
    have := rVl_lt p k (fun i hi => h i (by omega))
    have h1 := rDg_iff.mp (h k (by omega))
    show 10 * rVl T n p k + (rSg T n (p + k) - 48) < 10 ^ (k + 1)
    rw [Nat.pow_succ]; omega
theorem rDl_is : ∀ f k p, k ≤ f → (∀ i, i < k → rDg (rSg T n (p + i)) = true) → (k = f ∨ rDg (rSg T n (p + k)) = false) → rDl T n f p = k
  | 0, k, p, h, _, _ => by show 0 = k; omega
  | f + 1, 0, p, _, _, c => by
    have : rDg (rSg T n p) = false := by rcases c with c | c
                                         · omega
                                         · exact c
    show (if rDg (rSg T n p) = true then _ else 0) = 0
    rw [if_neg (by rw [this]; decide)]
  | f + 1, k + 1, p, h, a, c => by
    show (if rDg (rSg T n p) = true then rDl T n f (p + 1) + 1 else 0) = k + 1
    rw [if_pos (show rDg (rSg T n p) = true from a 0 (by omega)), rDl_is f k (p + 1) (by omega) (fun i hi => by rw [show p + 1 + i = p + (i + 1) by omega]; exact a (i + 1) (by omega)) (by
      rcases c with c | c
      · exact Or.inl (by omega)
      · exact Or.inr (by rw [show p + 1 + k = p + (k + 1) by omega]; exact c))]
theorem rRn_s (g p ln sp nr nB nT : Nat) (tv : Nat → Nat → Nat) : rRn T n (g + 1) p ln sp nr nB nT tv = if rBeg T n p = true then
      if rLt (rSg T n p) = true then
        if ln = 0 then
          if rBw T n 1 (n + 1) 0 p = 0 then
            if rBw T n 2 (n + 1) 0 p = 0 then (2, p, nB, nT, tv)
            else if nT < 16 then rRn T n g (p + 1) 2 (rBw T n 2 (n + 1) 0 p - 1) 0 nB nT tv else (4, p, nB, nT, tv)
          else if nB < 8 then rRn T n g (p + 1) 1 (rBw T n 1 (n + 1) 0 p - 1) 0 nB nT tv else (4, p, nB, nT, tv)
        else if rBw T n ln (n + 1) sp p = 0 then (2, p, nB, nT, tv) else rRn T n g (p + 1) ln (rBw T n ln (n + 1) sp p - 1) nr nB nT tv
      else if rDg (rSg T n p) = true then
        if 4 < rDl T n 5 p then (1, p, nB, nT, tv)
        else if rPN ln sp = 35 then
          if rIn ln nr (rVl T n p (rDl T n 5 p)) = true then rRn T n g (p + 1) ln (sp + 1) (nr + 1) nB nT (rUp tv (if ln = 1 then nB else 8 + nT) (rKd ln nr) (rVl T n p (rDl T n 5 p))) else (3, p, nB, nT, tv)
        else (2, p, nB, nT, tv)
      else if rSg T n p = 59 then
        if rPN ln sp = 59 then rRn T n g (p + 1) 0 0 0 (if ln = 1 then nB + 1 else nB) (if ln = 1 then nT else nT + 1) tv else (2, p, nB, nT, tv)
      else (1, p, nB, nT, tv)
    else rRn T n g (p + 1) ln sp nr nB nT tv := rfl
end ReadP
