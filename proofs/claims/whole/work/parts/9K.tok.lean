/-! ===== tokens: what the reference sees ===== -/
section TokP
variable {T : Nat → Nat} {n : Nat}
abbrev Sr : Type := Nat × Nat × Nat × Nat × Nat × (Nat → Nat → Nat)
def rQ (T : Nat → Nat) (n p : Nat) (s : Sr) : Zr := rRn T n (n - p) p s.1 s.2.1 s.2.2.1 s.2.2.2.1 s.2.2.2.2.1 s.2.2.2.2.2
theorem rQ_step {p : Nat} {s : Sr} (hp : p < n) (hb : rBeg T n p = false) : rQ T n p s = rQ T n (p + 1) s := by
  unfold rQ
  rw [show n - p = (n - (p + 1)) + 1 by omega, rRn_s, if_neg (by rw [hb]; decide)]
theorem rQ_skip {s : Sr} : ∀ d p, p + d ≤ n → (∀ i, p ≤ i → i < p + d → rBeg T n i = false) → rQ T n p s = rQ T n (p + d) s
  | 0, p, _, _ => rfl
  | d + 1, p, h1, h2 => by
    rw [rQ_step (by omega) (h2 p (by omega) (by omega)), rQ_skip d (p + 1) (by omega) (fun i a b => h2 i (by omega) (by omega)), show p + 1 + d = p + (d + 1) by omega]
theorem rQ_to {s : Sr} {p q : Nat} (h1 : p ≤ q) (h2 : q ≤ n) (h3 : ∀ i, p ≤ i → i < q → rBeg T n i = false) : rQ T n p s = rQ T n q s := by
  have := rQ_skip (T := T) (n := n) (s := s) (q - p) p (by omega) (fun i a b => h3 i a (by omega))
  rwa [show p + (q - p) = q by omega] at this
theorem rBeg_sp {i : Nat} (h : rSg T n i = 10 ∨ rSg T n i = 32) : rBeg T n i = false := Bool.eq_false_iff.mpr (fun q => by
  have := rBeg_iff.mp q
  omega)
theorem rBeg_lt {i : Nat} (h0 : 1 ≤ i) (h : rLt (rSg T n i) = true) (h1 : rLt (rSg T n (i - 1)) = true) : rBeg T n i = false := Bool.eq_false_iff.mpr (fun q => by
  have := (rBeg_iff.mp q).2.2.1
  obtain ⟨j, rfl⟩ : ∃ j, i = j + 1 := ⟨i - 1, by omega⟩
  rw [Nat.add_sub_cancel] at h1
  rw [rAh_s] at this
  exact this ⟨h, h1⟩)
theorem rBeg_dg {i : Nat} (h0 : 1 ≤ i) (h : rDg (rSg T n i) = true) (h1 : rDg (rSg T n (i - 1)) = true) : rBeg T n i = false := Bool.eq_false_iff.mpr (fun q => by
  have := (rBeg_iff.mp q).2.2.2
  obtain ⟨j, rfl⟩ : ∃ j, i = j + 1 := ⟨i - 1, by omega⟩
  rw [Nat.add_sub_cancel] at h1
  rw [rAh_s] at this
  exact this ⟨h, h1⟩)
/-- nothing goes on at e -/
def rCl (T : Nat → Nat) (n e : Nat) : Prop := ¬ (rLt (rSg T n e) = true ∧ rLt (rAh T n e) = true) ∧ ¬ (rDg (rSg T n e) = true ∧ rDg (rAh T n e) = true)
def rSpl (T : Nat → Nat) (n a e : Nat) (W : List Nat) : Prop := e = a + W.length ∧ ∀ i, i < W.length → rSg T n (a + i) = W.getD i 0
def kW (k : Nat) : List Nat := ([[98, 111, 120], [98, 121], [108, 105, 100], [116, 105, 109, 101, 115], [119, 101, 105, 103, 104, 116], [98, 101, 97, 114, 115], [116, 104, 105, 110, 103], [119, 111, 114, 116, 104]] : List (List Nat)).getD k []
/-- the token from a to e, its kind, its number -/
def tok (T : Nat → Nat) (n a e κ v : Nat) : Prop := a ≤ n ∧ e ≤ n ∧ rCl T n e ∧ ((κ = 11 ∧ a = n ∧ e = n) ∨ (rBeg T n a = true ∧ a < e ∧ (
  (κ ≤ 8 ∧ (∀ i, a ≤ i → i < e → rLt (rSg T n i) = true) ∧ ¬ rLt (rSg T n e) = true ∧ ∀ k, k < 8 → (κ = k ↔ rSpl T n a e (kW k))) ∨
  ((∀ i, a ≤ i → i < e → rDg (rSg T n i) = true) ∧ ¬ rDg (rSg T n e) = true ∧ ((κ = 9 ∧ e - a ≤ 4 ∧ v = rVl T n a (e - a)) ∨ (κ = 12 ∧ 4 < e - a))) ∨
  (¬ rLt (rSg T n a) = true ∧ ¬ rDg (rSg T n a) = true ∧ e = a + 1 ∧ ((κ = 10 ∧ rSg T n a = 59) ∨ (κ = 12 ∧ rSg T n a ≠ 59))))))
theorem rDL {c : Nat} (h : rDg c = true) : ¬ rLt c = true := fun q => by
  have := rDg_iff.mp h
  have := rLt_iff.mp q
  omega
theorem rQ_at {a ln sp nr nB nT : Nat} {tv : Nat → Nat → Nat} (hp : a < n) (hb : rBeg T n a = true) : rQ T n a (ln, sp, nr, nB, nT, tv) =
      if rLt (rSg T n a) = true then
        if ln = 0 then
          if rBw T n 1 (n + 1) 0 a = 0 then
            if rBw T n 2 (n + 1) 0 a = 0 then (2, a, nB, nT, tv)
            else if nT < 16 then rQ T n (a + 1) (2, rBw T n 2 (n + 1) 0 a - 1, 0, nB, nT, tv) else (4, a, nB, nT, tv)
          else if nB < 8 then rQ T n (a + 1) (1, rBw T n 1 (n + 1) 0 a - 1, 0, nB, nT, tv) else (4, a, nB, nT, tv)
        else if rBw T n ln (n + 1) sp a = 0 then (2, a, nB, nT, tv) else rQ T n (a + 1) (ln, rBw T n ln (n + 1) sp a - 1, nr, nB, nT, tv)
      else if rDg (rSg T n a) = true then
        if 4 < rDl T n 5 a then (1, a, nB, nT, tv)
        else if rPN ln sp = 35 then
          if rIn ln nr (rVl T n a (rDl T n 5 a)) = true then rQ T n (a + 1) (ln, sp + 1, nr + 1, nB, nT, rUp tv (if ln = 1 then nB else 8 + nT) (rKd ln nr) (rVl T n a (rDl T n 5 a))) else (3, a, nB, nT, tv)
        else (2, a, nB, nT, tv)
      else if rSg T n a = 59 then
        if rPN ln sp = 59 then rQ T n (a + 1) (0, 0, 0, if ln = 1 then nB + 1 else nB, if ln = 1 then nT else nT + 1, tv) else (2, a, nB, nT, tv)
      else (1, a, nB, nT, tv) := by
  unfold rQ
  rw [show n - a = (n - (a + 1)) + 1 by omega, rRn_s, if_pos hb]
variable {a e κ v ln sp nr nB nT : Nat} {tv : Nat → Nat → Nat}
theorem tk_12 (t : tok T n a e κ v) (h : κ = 12) : (rQ T n a (ln, sp, nr, nB, nT, tv)).1 = 1 ∧ (rQ T n a (ln, sp, nr, nB, nT, tv)).2.1 = a := by
  obtain ⟨t1, t2, t3, q | ⟨b, ae, q | ⟨d, d2, q⟩ | ⟨q1, q2, q3, q⟩⟩⟩ := t
  · omega
  · omega
  · have q4 : 4 < e - a := by omega
    have e1 : rDl T n 5 a = 5 := rDl_is 5 5 a (by omega) (fun i hi => d (a + i) (by omega) (by omega)) (Or.inl rfl)
    have d0 := d a (by omega) ae
    rw [rQ_at (by omega) b, if_neg (rDL d0), if_pos d0, e1, if_pos (by decide)]
    exact ⟨rfl, rfl⟩
  · have q4 : rSg T n a ≠ 59 := by omega
    rw [rQ_at (by omega) b, if_neg q1, if_neg q2, if_neg q4]
    exact ⟨rfl, rfl⟩
theorem tk_11 (t : tok T n a e κ v) (h : κ = 11) : a = n ∧ rQ T n a (ln, sp, nr, nB, nT, tv) = if ln = 0 then (0, 0, nB, nT, tv) else (2, n, nB, nT, tv) := by
  obtain ⟨t1, t2, t3, q | ⟨b, ae, q | ⟨d, d2, q⟩ | ⟨q1, q2, q3, q⟩⟩⟩ := t
  · obtain ⟨-, rfl, -⟩ := q
    refine ⟨rfl, ?_⟩
    unfold rQ
    rw [Nat.sub_self]; rfl
  all_goals omega
theorem tk_10 (t : tok T n a e κ v) (h : κ = 10) : a < e ∧ rQ T n a (ln, sp, nr, nB, nT, tv) = if rPN ln sp = 59 then rQ T n e (0, 0, 0, if ln = 1 then nB + 1 else nB, if ln = 1 then nT else nT + 1, tv) else (2, a, nB, nT, tv) := by
  obtain ⟨t1, t2, t3, q | ⟨b, ae, q | ⟨d, d2, q⟩ | ⟨q1, q2, q3, q⟩⟩⟩ := t
  · omega
  · omega
  · omega
  · refine ⟨ae, ?_⟩
    rw [rQ_at (by omega) b, if_neg q1, if_neg q2, if_pos (by omega), q3]
theorem tk_9 (t : tok T n a e κ v) (h : κ = 9) : a < e ∧ v ≤ 9999 ∧ rQ T n a (ln, sp, nr, nB, nT, tv) = if rPN ln sp = 35 then if rIn ln nr v = true then rQ T n e (ln, sp + 1, nr + 1, nB, nT, rUp tv (if ln = 1 then nB else 8 + nT) (rKd ln nr) v) else (3, a, nB, nT, tv) else (2, a, nB, nT, tv) := by
  obtain ⟨t1, t2, t3, q | ⟨b, ae, q | ⟨d, d2, q⟩ | ⟨q1, q2, q3, q⟩⟩⟩ := t
  · omega
  · omega
  · have q4 : e - a ≤ 4 ∧ v = rVl T n a (e - a) := by omega
    have d0 := d a (by omega) ae
    have e1 : rDl T n 5 a = e - a := rDl_is 5 (e - a) a (by omega) (fun i hi => d (a + i) (by omega) (by omega)) (Or.inr (by rw [show a + (e - a) = e by omega]; exact Bool.eq_false_iff.mpr d2))
    have e2 := rVl_lt (T := T) (n := n) a (e - a) (fun i hi => d (a + i) (by omega) (by omega))
    have e3 : (10 : Nat) ^ (e - a) ≤ 10 ^ 4 := Nat.pow_le_pow_right (by decide) q4.1
    refine ⟨ae, by omega, ?_⟩
    rw [rQ_at (by omega) b, if_neg (rDL d0), if_pos d0, e1, if_neg (by omega), ← q4.2, rQ_to (T := T) (n := n) (p := a + 1) (q := e) (by omega) t2 (fun i h1 h2 => rBeg_dg (by omega) (d i (by omega) h2) (d (i - 1) (by omega) (by omega)))]
  · omega
theorem tk_8 (t : tok T n a e κ v) (h : κ ≤ 8) : a < e ∧ e ≤ n ∧ (∀ i, a ≤ i → i < e → rLt (rSg T n i) = true) ∧ ¬ rLt (rSg T n e) = true ∧ (∀ k, k < 8 → (κ = k ↔ rSpl T n a e (kW k))) ∧ rQ T n a (ln, sp, nr, nB, nT, tv) = if ln = 0 then
          if rBw T n 1 (n + 1) 0 a = 0 then
            if rBw T n 2 (n + 1) 0 a = 0 then (2, a, nB, nT, tv)
            else if nT < 16 then rQ T n e (2, rBw T n 2 (n + 1) 0 a - 1, 0, nB, nT, tv) else (4, a, nB, nT, tv)
          else if nB < 8 then rQ T n e (1, rBw T n 1 (n + 1) 0 a - 1, 0, nB, nT, tv) else (4, a, nB, nT, tv)
        else if rBw T n ln (n + 1) sp a = 0 then (2, a, nB, nT, tv) else rQ T n e (ln, rBw T n ln (n + 1) sp a - 1, nr, nB, nT, tv) := by
  obtain ⟨t1, t2, t3, q | ⟨b, ae, ⟨q1, q2, q3, q4⟩ | ⟨d, d2, q⟩ | ⟨q1, q2, q3, q⟩⟩⟩ := t
  · omega
  · refine ⟨ae, t2, q2, q3, q4, ?_⟩
    have sk : ∀ s : Sr, rQ T n (a + 1) s = rQ T n e s := fun s => rQ_to (by omega) t2 (fun i h1 h2 => rBeg_lt (by omega) (q2 i (by omega) h2) (q2 (i - 1) (by omega) (by omega)))
    rw [rQ_at (by omega) b, if_pos (q2 a (by omega) ae), sk, sk, sk]
  · omega
  · omega
/-- behindWord, at a word of the pattern -/
theorem rBw_w : ∀ (W : List Nat) (g s p e : Nat), n + 1 ≤ p + g → e ≤ n → p ≤ e → (∀ i, p ≤ i → i < e → rLt (rSg T n i) = true) → ¬ rLt (rSg T n e) = true → (∀ i, i < W.length → rPN ln (s + i) = W.getD i 0 ∧ rLt (W.getD i 0) = true) → ¬ rLt (rPN ln (s + W.length)) = true → (rSpl T n p e W → rBw T n ln g s p = s + W.length + 1) ∧ (¬ rSpl T n p e W → rBw T n ln g s p = 0)
  | W, 0, s, p, e, h1, h2, h3, _, _, _, _ => by omega
  | [], g + 1, s, p, e, h1, h2, h3, h4, h5, h6, h7 => by
    rw [show s + ([] : List Nat).length = s from rfl] at h7
    refine ⟨fun q => ?_, fun q => ?_⟩
    · have : e = p := q.1
      rw [this] at h5
      rw [rBw, if_neg h5, if_neg h7]; rfl
    · have : p < e := by
        rcases Nat.lt_or_ge p e with z | z
        · exact z
        · exact absurd ⟨show e = p + 0 by omega, fun i hi => absurd hi (Nat.not_lt_zero i)⟩ q
      have l := h4 p (by omega) this
      rw [rBw, if_pos l, if_neg (fun z => h7 (by rw [z]; exact l))]
  | c :: W, g + 1, s, p, e, h1, h2, h3, h4, h5, h6, h7 => by
    have c0 := h6 0 (Nat.zero_lt_succ _)
    have c1 : rPN ln s = c := c0.1
    have c2 : rLt c = true := c0.2
    rcases Nat.lt_or_ge p e with z | z
    · have l := h4 p (by omega) z
      rw [rBw, if_pos l, c1]
      by_cases cc : c = rSg T n p
      · rw [if_pos cc]
        obtain ⟨i1, i2⟩ := rBw_w W g (s + 1) (p + 1) e (by omega) h2 (by omega) (fun i a b => h4 i (by omega) b) h5 (fun i hi => by
          have := h6 (i + 1) (Nat.succ_lt_succ hi)
          rw [show s + 1 + i = s + (i + 1) by omega]
          exact this) (by rw [show s + 1 + W.length = s + (W.length + 1) by omega]; exact h7)
        refine ⟨fun q => ?_, fun q => i2 (fun q2 => q ⟨?_, fun i hi => ?_⟩)⟩
        · rw [i1 ⟨?_, fun i hi => ?_⟩]
          · show s + 1 + W.length + 1 = s + (W.length + 1) + 1
            omega
          · have := q.1
            show e = p + 1 + W.length
            rw [this]; show p + (W.length + 1) = _; omega
          · have := q.2 (i + 1) (Nat.succ_lt_succ hi)
            rw [show p + 1 + i = p + (i + 1) by omega]
            exact this
        · rw [q2.1]; show p + 1 + W.length = p + (W.length + 1); omega
        · cases i with
          | zero => exact cc.symm
          | succ i =>
            have := q2.2 i (Nat.lt_of_succ_lt_succ hi)
            rw [show p + 1 + i = p + (i + 1) by omega] at this
            exact this
      · rw [if_neg cc]
        exact ⟨fun q => absurd (q.2 0 (Nat.zero_lt_succ _)).symm cc, fun _ => rfl⟩
    · have : p = e := by omega
      subst this
      rw [rBw, if_neg h5, c1, if_pos c2]
      exact ⟨fun q => by have := q.1; rw [List.length_cons] at this; omega, fun _ => rfl⟩
/-- key k stands in the pattern ln from s on -/
def rAt (ln s k : Nat) : Prop := (∀ i, i < (kW k).length → rPN ln (s + i) = (kW k).getD i 0 ∧ rLt ((kW k).getD i 0) = true) ∧ ¬ rLt (rPN ln (s + (kW k).length)) = true ∧ rLt (rPN ln s) = true
theorem rBw_k (t : tok T n a e κ v) (h : κ ≤ 8) {s k : Nat} (hk : k < 8) (p : rAt ln s k) : (κ = k → rBw T n ln (n + 1) s a = s + (kW k).length + 1) ∧ (κ ≠ k → rBw T n ln (n + 1) s a = 0) := by
  obtain ⟨q1, q2, q3, q4, q5, -⟩ := tk_8 (ln := 0) (sp := 0) (nr := 0) (nB := 0) (nT := 0) (tv := fun _ _ => 0) t h
  obtain ⟨i1, i2⟩ := rBw_w (T := T) (n := n) (ln := ln) (kW k) (n + 1) s a e (by omega) q2 (by omega) q3 q4 p.1 p.2.1
  exact ⟨fun z => i1 ((q5 k hk).mp z), fun z => i2 (fun w => z ((q5 k hk).mpr w))⟩
def stW (T : Nat → Nat) (n k : Nat) (s s' : Sr) : Prop := ∀ a e κ v, tok T n a e κ v → (κ = k → a < e ∧ rQ T n a s = rQ T n e s') ∧ (κ ≠ k → (rQ T n a s).1 = (if κ = 12 then 1 else 2) ∧ (rQ T n a s).2.1 = a)
theorem tok_12 (t : tok T n a e κ v) : κ ≤ 12 := by
  obtain ⟨t1, t2, t3, q | ⟨b, ae, q | ⟨d, d2, q⟩ | ⟨q1, q2, q3, q⟩⟩⟩ := t <;> omega
theorem stW_word {k : Nat} (hk : k < 8) (hl : ln ≠ 0) (p : rAt ln sp k) : stW T n k (ln, sp, nr, nB, nT, tv) (ln, sp + (kW k).length, nr, nB, nT, tv) := by
  intro a e κ v t
  have h12 := tok_12 t
  have hl35 : rPN ln sp ≠ 35 ∧ rPN ln sp ≠ 59 := by have := rLt_iff.mp p.2.2; omega
  refine ⟨fun c => ?_, fun c => ?_⟩
  · obtain ⟨q1, q2, q3, q4, q5, q6⟩ := tk_8 (ln := ln) (sp := sp) (nr := nr) (nB := nB) (nT := nT) (tv := tv) t (by omega)
    rw [q6, if_neg hl, (rBw_k t (by omega) hk p).1 c, if_neg (by omega), Nat.add_sub_cancel]
    exact ⟨q1, rfl⟩
  · rcases (show κ ≤ 8 ∨ κ = 9 ∨ κ = 10 ∨ κ = 11 ∨ κ = 12 by omega) with q | q | q | q | q
    · obtain ⟨q1, q2, q3, q4, q5, q6⟩ := tk_8 (ln := ln) (sp := sp) (nr := nr) (nB := nB) (nT := nT) (tv := tv) t (by omega)
      rw [q6, if_neg hl, (rBw_k t (by omega) hk p).2 c, if_pos rfl, if_neg (by omega)]
      exact ⟨rfl, rfl⟩
    · rw [(tk_9 t q).2.2, if_neg hl35.1, if_neg (by omega)]
      exact ⟨rfl, rfl⟩
    · rw [(tk_10 t q).2, if_neg hl35.2, if_neg (by omega)]
      exact ⟨rfl, rfl⟩
    · obtain ⟨z1, z2⟩ := tk_11 (ln := ln) (sp := sp) (nr := nr) (nB := nB) (nT := nT) (tv := tv) t q
      rw [z2, if_neg hl, if_neg (by omega), z1]
      exact ⟨rfl, rfl⟩
    · rw [if_pos q]
      exact tk_12 t q
theorem stW_semi (hl : ln ≠ 0) (p : rPN ln sp = 59) (pw : ∀ T a, rLt (rSg T n a) = true → rBw T n ln (n + 1) sp a = 0) : stW T n 10 (ln, sp, nr, nB, nT, tv) (0, 0, 0, if ln = 1 then nB + 1 else nB, if ln = 1 then nT else nT + 1, tv) := by
  intro a e κ v t
  have h12 := tok_12 t
  refine ⟨fun c => ?_, fun c => ?_⟩
  · rw [(tk_10 t c).2, if_pos p]
    exact ⟨(tk_10 (ln := 0) (sp := 0) (nr := 0) (nB := 0) (nT := 0) (tv := fun _ _ => 0) t c).1, rfl⟩
  · rcases (show κ ≤ 8 ∨ κ = 9 ∨ κ = 11 ∨ κ = 12 by omega) with q | q | q | q
    · obtain ⟨q1, q2, q3, q4, q5, q6⟩ := tk_8 (ln := ln) (sp := sp) (nr := nr) (nB := nB) (nT := nT) (tv := tv) t (by omega)
      rw [q6, if_neg hl, pw T a (q3 a (by omega) q1), if_pos rfl, if_neg (by omega)]
      exact ⟨rfl, rfl⟩
    · rw [(tk_9 t q).2.2, if_neg (by omega), if_neg (by omega)]
      exact ⟨rfl, rfl⟩
    · obtain ⟨z1, z2⟩ := tk_11 (ln := ln) (sp := sp) (nr := nr) (nB := nB) (nT := nT) (tv := tv) t q
      rw [z2, if_neg hl, if_neg (by omega), z1]
      exact ⟨rfl, rfl⟩
    · rw [if_pos q]
      exact tk_12 t q
theorem rBw_no {s : Nat} (h : ¬ rLt (rPN ln s) = true) (T : Nat → Nat) (a : Nat) (l : rLt (rSg T n a) = true) : rBw T n ln (n + 1) s a = 0 := by
  rw [rBw, if_pos l, if_neg (fun z => h (by rw [z]; exact l))]
def stN (T : Nat → Nat) (n lo hi : Nat) (s : Sr) (s' : Nat → Sr) : Prop := ∀ a e κ v, tok T n a e κ v → (κ = 9 → v ≤ 9999 ∧ a < e) ∧ (κ = 9 → lo ≤ v ∧ v ≤ hi → rQ T n a s = rQ T n e (s' v)) ∧ (κ = 9 → ¬ (lo ≤ v ∧ v ≤ hi) → (rQ T n a s).1 = 3 ∧ (rQ T n a s).2.1 = a) ∧ (κ ≠ 9 → (rQ T n a s).1 = (if κ = 12 then 1 else 2) ∧ (rQ T n a s).2.1 = a)
theorem stN_num {lo hi : Nat} (hl : ln ≠ 0) (p : rPN ln sp = 35) (hv : ∀ v, rIn ln nr v = true ↔ lo ≤ v ∧ v ≤ hi) : stN T n lo hi (ln, sp, nr, nB, nT, tv) (fun v => (ln, sp + 1, nr + 1, nB, nT, rUp tv (if ln = 1 then nB else 8 + nT) (rKd ln nr) v)) := by
  intro a e κ v t
  have h12 := tok_12 t
  refine ⟨fun c => ?_, fun c c2 => ?_, fun c c2 => ?_, fun c => ?_⟩
  · have := tk_9 (ln := 0) (sp := 0) (nr := 0) (nB := 0) (nT := 0) (tv := fun _ _ => 0) t c
    exact ⟨this.2.1, this.1⟩
  · rw [(tk_9 t c).2.2, if_pos p, if_pos ((hv v).mpr c2)]
  · rw [(tk_9 t c).2.2, if_pos p, if_neg (fun z => c2 ((hv v).mp z))]
    exact ⟨rfl, rfl⟩
  · rcases (show κ ≤ 8 ∨ κ = 10 ∨ κ = 11 ∨ κ = 12 by omega) with q | q | q | q
    · obtain ⟨q1, q2, q3, q4, q5, q6⟩ := tk_8 (ln := ln) (sp := sp) (nr := nr) (nB := nB) (nT := nT) (tv := tv) t (by omega)
      rw [q6, if_neg hl, rBw_no (by rw [p]; decide) T a (q3 a (by omega) q1), if_pos rfl, if_neg (by omega)]
      exact ⟨rfl, rfl⟩
    · rw [(tk_10 t q).2, if_neg (by omega), if_neg (by omega)]
      exact ⟨rfl, rfl⟩
    · obtain ⟨z1, z2⟩ := tk_11 (ln := ln) (sp := sp) (nr := nr) (nB := nB) (nT := nT) (tv := tv) t q
      rw [z2, if_neg hl, if_neg (by omega), z1]
      exact ⟨rfl, rfl⟩
    · rw [if_pos q]
      exact tk_12 t q
theorem at_box : rAt 1 0 0 ∧ rAt 1 4 1 ∧ rAt 1 7 2 ∧ rAt 1 11 3 ∧ rAt 1 17 4 ∧ rAt 1 24 5 ∧ rAt 2 0 6 ∧ rAt 2 6 1 ∧ rAt 2 9 4 ∧ rAt 2 16 7 := by
  refine ⟨?_, ?_, ?_, ?_, ?_, ?_, ?_, ?_, ?_, ?_⟩ <;> (unfold rAt; decide +kernel)
/-- a line begins -/
theorem st_line (t : tok T n a e κ v) : (κ = 0 → a < e ∧ (nB < 8 → rQ T n a (0, sp, nr, nB, nT, tv) = rQ T n e (1, 3, 0, nB, nT, tv)) ∧ (¬ nB < 8 → (rQ T n a (0, sp, nr, nB, nT, tv)).1 = 4 ∧ (rQ T n a (0, sp, nr, nB, nT, tv)).2.1 = a)) ∧ (κ = 6 → a < e ∧ (nT < 16 → rQ T n a (0, sp, nr, nB, nT, tv) = rQ T n e (2, 5, 0, nB, nT, tv)) ∧ (¬ nT < 16 → (rQ T n a (0, sp, nr, nB, nT, tv)).1 = 4 ∧ (rQ T n a (0, sp, nr, nB, nT, tv)).2.1 = a)) ∧ (κ = 11 → rQ T n a (0, sp, nr, nB, nT, tv) = (0, 0, nB, nT, tv)) ∧ (κ ≠ 0 → κ ≠ 6 → κ ≠ 11 → (rQ T n a (0, sp, nr, nB, nT, tv)).1 = (if κ = 12 then 1 else 2) ∧ (rQ T n a (0, sp, nr, nB, nT, tv)).2.1 = a) := by
  have h12 := tok_12 t
  refine ⟨fun c => ?_, fun c => ?_, fun c => ?_, fun c1 c2 c3 => ?_⟩
  · obtain ⟨q1, q2, q3, q4, q5, q6⟩ := tk_8 (ln := 0) (sp := sp) (nr := nr) (nB := nB) (nT := nT) (tv := tv) t (by omega)
    have b1 : rBw T n 1 (n + 1) 0 a = 4 := (rBw_k t (by omega) (by decide) at_box.1).1 c
    rw [q6, if_pos rfl, b1, if_neg (by decide)]
    refine ⟨q1, fun z => by rw [if_pos z], fun z => ?_⟩
    rw [if_neg z]; exact ⟨rfl, rfl⟩
  · obtain ⟨q1, q2, q3, q4, q5, q6⟩ := tk_8 (ln := 0) (sp := sp) (nr := nr) (nB := nB) (nT := nT) (tv := tv) t (by omega)
    have b1 : rBw T n 1 (n + 1) 0 a = 0 := (rBw_k t (by omega) (by decide) at_box.1).2 (by omega)
    have b2 : rBw T n 2 (n + 1) 0 a = 6 := (rBw_k t (by omega) (by decide) at_box.2.2.2.2.2.2.1).1 c
    rw [q6, if_pos rfl, b1, if_pos rfl, b2, if_neg (by decide)]
    refine ⟨q1, fun z => by rw [if_pos z], fun z => ?_⟩
    rw [if_neg z]; exact ⟨rfl, rfl⟩
  · rw [(tk_11 t c).2, if_pos rfl]
  · rcases (show κ ≤ 8 ∨ κ = 9 ∨ κ = 10 ∨ κ = 12 by omega) with q | q | q | q
    · obtain ⟨q1, q2, q3, q4, q5, q6⟩ := tk_8 (ln := 0) (sp := sp) (nr := nr) (nB := nB) (nT := nT) (tv := tv) t (by omega)
      have b1 : rBw T n 1 (n + 1) 0 a = 0 := (rBw_k t (by omega) (by decide) at_box.1).2 (by omega)
      have b2 : rBw T n 2 (n + 1) 0 a = 0 := (rBw_k t (by omega) (by decide) at_box.2.2.2.2.2.2.1).2 (by omega)
      rw [q6, if_pos rfl, b1, if_pos rfl, b2, if_pos rfl, if_neg (by omega)]
      exact ⟨rfl, rfl⟩
    · rw [(tk_9 t q).2.2, if_neg (by rw [rPN_0]; decide), if_neg (by omega)]
      exact ⟨rfl, rfl⟩
    · rw [(tk_10 t q).2, if_neg (by rw [rPN_0]; decide), if_neg (by omega)]
      exact ⟨rfl, rfl⟩
    · rw [if_pos q]
      exact tk_12 t q
end TokP
