/-! ===== the best of all orders: pure part ===== -/
/-- the first of the least: (place + 1, value), (0, 0) if there is none -/
def am (p : Nat → Bool) (f : Nat → Nat) : Nat → Nat × Nat
  | 0 => (0, 0)
  | k + 1 => if p k = true then (if (am p f k).1 = 0 ∨ f k < (am p f k).2 then (k + 1, f k) else am p f k) else am p f k
theorem am_s {p : Nat → Bool} {f : Nat → Nat} (k : Nat) : am p f (k + 1) = if p k = true then (if (am p f k).1 = 0 ∨ f k < (am p f k).2 then (k + 1, f k) else am p f k) else am p f k := rfl
theorem am_cong {p q : Nat → Bool} {f g : Nat → Nat} : ∀ {n : Nat}, (∀ k, k < n → p k = q k) → (∀ k, k < n → p k = true → f k = g k) → am p f n = am q g n
  | 0, _, _ => rfl
  | n + 1, h1, h2 => by
    have ih := am_cong (p := p) (q := q) (f := f) (g := g) (n := n) (fun k hk => h1 k (by omega)) (fun k hk => h2 k (by omega))
    rw [am_s, am_s, ih, h1 n (by omega)]
    by_cases c : q n = true
    · rw [if_pos c, if_pos c, h2 n (by omega) (by rw [h1 n (by omega)]; exact c)]
    · rw [if_neg c, if_neg c]
theorem am_none {p : Nat → Bool} {f : Nat → Nat} : ∀ {n : Nat}, (am p f n).1 = 0 → ∀ k, k < n → p k = false
  | 0, _, k, hk => absurd hk (Nat.not_lt_zero k)
  | n + 1, h, k, hk => by
    rw [am_s] at h
    by_cases c : p n = true
    · rw [if_pos c] at h
      split at h
      · cases h
      · rename_i z; exact absurd (Or.inl h) z
    · rw [if_neg c] at h
      by_cases e : k = n
      · subst e; simpa using c
      · exact am_none h k (by omega)
theorem am_yes {p : Nat → Bool} {f : Nat → Nat} : ∀ {n : Nat}, (am p f n).1 ≠ 0 → (am p f n).1 ≤ n ∧ p ((am p f n).1 - 1) = true ∧ (am p f n).2 = f ((am p f n).1 - 1)
  | 0, h => absurd rfl h
  | n + 1, h => by
    rw [am_s] at h ⊢
    by_cases c : p n = true
    · rw [if_pos c] at h ⊢
      split
      · exact ⟨Nat.le_refl _, c, rfl⟩
      · rename_i z
        rw [if_neg z] at h
        obtain ⟨a, b, d⟩ := am_yes (p := p) (f := f) h
        exact ⟨by omega, b, d⟩
    · rw [if_neg c] at h ⊢
      obtain ⟨a, b, d⟩ := am_yes (p := p) (f := f) h
      exact ⟨by omega, b, d⟩
theorem am_zero {p : Nat → Bool} {f : Nat → Nat} : ∀ {n : Nat}, (am p f n).1 = 0 → (am p f n).2 = 0
  | 0, _ => rfl
  | n + 1, q => by
    rw [am_s] at q ⊢
    by_cases c : p n = true
    · rw [if_pos c] at q ⊢
      split
      · rename_i w; rw [if_pos w] at q; cases q
      · rename_i w; rw [if_neg w] at q; exact am_zero q
    · rw [if_neg c] at q ⊢; exact am_zero q
/-- how many of W lie below -/
def cB (W : Nat → Bool) (v : Nat) : Nat := sE (fun j => if W j = true then 1 else 0) v
theorem cB_s (W : Nat → Bool) (v : Nat) : cB W (v + 1) = cB W v + (if W v = true then 1 else 0) := rfl
theorem cB_mono (W : Nat → Bool) {u : Nat} : ∀ {v : Nat}, u ≤ v → cB W u ≤ cB W v
  | 0, h => by rw [show u = 0 by omega]; exact Nat.le_refl _
  | v + 1, h => by
    by_cases e : u = v + 1
    · rw [e]; exact Nat.le_refl _
    · have := cB_mono W (u := u) (v := v) (by omega)
      rw [cB_s]; omega
theorem cB_lt {W : Nat → Bool} {u v : Nat} (hW : W u = true) (h : u < v) : cB W u < cB W v := by
  have := cB_mono W (u := u + 1) (v := v) (by omega)
  rw [cB_s, if_pos hW] at this
  omega
/-- the same least, told by places among W -/
theorem am_places {W : Nat → Bool} {p : Nat → Bool} {f : Nat → Nat} {p' : Nat → Bool} {f' : Nat → Nat} : ∀ {v : Nat}, (∀ i, i < v → p' i = (W i && p (cB W i))) → (∀ i, i < v → p' i = true → f' i = f (cB W i)) → (am p' f' v).2 = (am p f (cB W v)).2 ∧ ((am p' f' v).1 = 0 ↔ (am p f (cB W v)).1 = 0) ∧ ((am p' f' v).1 ≠ 0 → (am p f (cB W v)).1 = cB W ((am p' f' v).1 - 1) + 1)
  | 0, _, _ => ⟨rfl, Iff.rfl, fun z => absurd rfl z⟩
  | v + 1, h1, h2 => by
    obtain ⟨a, b, c⟩ := am_places (W := W) (p := p) (f := f) (p' := p') (f' := f') (v := v) (fun i hi => h1 i (by omega)) (fun i hi => h2 i (by omega))
    have e1 := h1 v (by omega)
    have e2 := h2 v (by omega)
    rw [am_s, cB_s]
    by_cases w : W v = true
    · rw [if_pos w, am_s]
      rw [w, Bool.true_and] at e1
      by_cases q : p (cB W v) = true
      · rw [q] at e1
        rw [if_pos e1, if_pos q, e2 e1]
        by_cases d : (am p f (cB W v)).1 = 0 ∨ f (cB W v) < (am p f (cB W v)).2
        · rw [if_pos d, if_pos (by rw [a]; exact d.imp_left b.mpr)]
          exact ⟨rfl, ⟨fun z => absurd z (Nat.succ_ne_zero _), fun z => absurd z (Nat.succ_ne_zero _)⟩, fun _ => rfl⟩
        · rw [if_neg d, if_neg (by rw [a]; exact fun z => d (z.imp_left b.mp))]
          exact ⟨a, b, c⟩
      · have qf : p (cB W v) = false := by simpa using q
        rw [qf] at e1
        rw [if_neg (by rw [e1]; decide), if_neg q]
        exact ⟨a, b, c⟩
    · have wf : W v = false := by simpa using w
      rw [wf, Bool.false_and] at e1
      rw [if_neg (by rw [e1]; decide), if_neg w]
      exact ⟨a, b, c⟩
section Opt
variable {pk lv : Nat → Nat} {W : Nat → Bool}
def adG (g : Nat → Bool) (i : Nat) : Nat → Bool := fun j => g j || decide (j = i)
def rmB (W g : Nat → Bool) : Nat → Bool := fun i => W i && !(g i)
def opt (pk lv : Nat → Nat) (W : Nat → Bool) : Nat → (Nat → Bool) → Nat
  | 0, _ => 0
  | m + 1, g => (am (rmB W g) (fun i => lft pk lv g 9 (i + 1) + opt pk lv W m (adG g i)) 24).2
def amO (pk lv : Nat → Nat) (W : Nat → Bool) (m : Nat) (g : Nat → Bool) : Nat → Nat × Nat := am (rmB W g) (fun i => lft pk lv g 9 (i + 1) + opt pk lv W m (adG g i))
def pth (pk lv : Nat → Nat) (W : Nat → Bool) : Nat → (Nat → Bool) → Nat → Nat
  | 0, _, _ => 0
  | m + 1, g, 0 => (amO pk lv W m g 24).1 - 1
  | m + 1, g, t + 1 => pth pk lv W m (adG g ((amO pk lv W m g 24).1 - 1)) t
theorem adG_cong {g g' : Nat → Bool} (h : ∀ j, j < 24 → g j = g' j) (i : Nat) : ∀ j, j < 24 → adG g i j = adG g' i j := fun j hj => by unfold adG; rw [h j hj]
theorem opt_cong (hp : ∀ i, i < 24 → pk i ≤ 8) : ∀ (m : Nat) {g g' : Nat → Bool}, (∀ j, j < 24 → g j = g' j) → opt pk lv W m g = opt pk lv W m g'
  | 0, _, _, _ => rfl
  | m + 1, g, g', h => by
    unfold opt
    rw [am_cong (q := rmB W g') (g := fun i => lft pk lv g' 9 (i + 1) + opt pk lv W m (adG g' i)) (fun k hk => by unfold rmB; rw [h k hk]) (fun k hk _ => by rw [lft_cong hp h 9 (k + 1) (by omega), opt_cong hp m (adG_cong h k)])]
theorem amO_cong (hp : ∀ i, i < 24 → pk i ≤ 8) (m : Nat) {g g' : Nat → Bool} (h : ∀ j, j < 24 → g j = g' j) {n : Nat} (hn : n ≤ 24) : amO pk lv W m g n = amO pk lv W m g' n := by
  unfold amO
  exact am_cong (fun k hk => by unfold rmB; rw [h k (by omega)]) (fun k hk _ => by rw [lft_cong hp h 9 (k + 1) (by omega), opt_cong hp m (adG_cong h k)])
theorem pth_cong (hp : ∀ i, i < 24 → pk i ≤ 8) : ∀ (m : Nat) {g g' : Nat → Bool}, (∀ j, j < 24 → g j = g' j) → ∀ t, pth pk lv W m g t = pth pk lv W m g' t
  | 0, _, _, _, _ => rfl
  | m + 1, g, g', h, 0 => by unfold pth; rw [amO_cong hp m h (Nat.le_refl _)]
  | m + 1, g, g', h, t + 1 => by unfold pth; rw [amO_cong hp m h (Nat.le_refl _)]; exact pth_cong hp m (adG_cong h _) t
theorem opt_le : ∀ (m : Nat) (g : Nat → Bool), opt pk lv W m g ≤ m * 216
  | 0, _ => Nat.le_refl _
  | m + 1, g => by
    unfold opt
    by_cases z : (am (rmB W g) (fun i => lft pk lv g 9 (i + 1) + opt pk lv W m (adG g i)) 24).1 = 0
    · rw [am_zero z]; exact Nat.zero_le _
    · rw [(am_yes z).2.2]
      have h1 := opt_le m (adG g ((am (rmB W g) (fun i => lft pk lv g 9 (i + 1) + opt pk lv W m (adG g i)) 24).1 - 1))
      have h2 := lft_le pk lv g 9 ((am (rmB W g) (fun i => lft pk lv g 9 (i + 1) + opt pk lv W m (adG g i)) 24).1 - 1 + 1)
      omega
/-- how many are left -/
def lf (W g : Nat → Bool) : Nat := sE (fun j => if rmB W g j = true then 1 else 0) 24
theorem lf_ad {g : Nat → Bool} {i : Nat} (hi : i < 24) (h : rmB W g i = true) : lf W (adG g i) + 1 = lf W g := by
  have e1 : sE (fun k => if i = k then 1 else 0) 24 = 1 := by rw [sE_one, if_pos hi]
  suffices e2 : lf W (adG g i) + sE (fun k => if i = k then 1 else 0) 24 = lf W g by rw [e1] at e2; exact e2
  unfold lf
  rw [← sE_add]
  refine sE_cong (n := 24) (fun k hk => ?_)
  by_cases q : i = k
  · subst q
    rw [if_pos rfl, if_pos h, if_neg (by unfold rmB adG; simp)]
  · have e : rmB W (adG g i) k = rmB W g k := by
      unfold rmB adG; rw [decide_eq_false (fun z => q z.symm), Bool.or_false]
    rw [if_neg q, e, Nat.add_zero]
theorem lf_am {g : Nat → Bool} {m : Nat} (h : lf W g = m + 1) : (amO pk lv W m g 24).1 ≠ 0 := fun z => by
  have a := am_none z
  have : lf W g = 0 := sE_zero (fun k hk => by rw [if_neg (by rw [a k hk]; decide)])
  omega
end Opt
