section SeekP
variable {W : Nat → Bool}
theorem bitO {o k : Nat} (ho : o < 32) (hk : k < 5) : ((nI o >>> (nI k &&& 31)) &&& 1) = if o.testBit k = true then 1 else 0 := (show ∀ o, o < 32 → ∀ k, k < 5 → ((nI o >>> (nI k &&& 31)) &&& 1) = if o.testBit k = true then 1 else 0 by decide) o ho k hk
theorem orO {o k : Nat} (ho : o < 32) (hk : k < 5) : nI o ||| ((1 : Int32) <<< (nI k &&& 31)) = nI (o ||| 2 ^ k) := (show ∀ o, o < 32 → ∀ k, k < 5 → nI o ||| ((1 : Int32) <<< (nI k &&& 31)) = nI (o ||| 2 ^ k) by decide) o ho k hk
theorem upO {n o k : Nat} (hn : n < 6) (ho : o < 2 ^ n) (hk : k < n) (hb : o.testBit k = false) : o < o ||| 2 ^ k ∧ o ||| 2 ^ k < 2 ^ n := by
  refine (show ∀ n, n < 6 → ∀ o, o < 2 ^ n → ∀ k, k < n → o.testBit k = false → o < o ||| 2 ^ k ∧ o ||| 2 ^ k < 2 ^ n by decide) n hn o ho k hk hb
theorem someO {n o : Nat} (hn : n < 6) (ho : o + 1 < 2 ^ n) : ∃ k, k < n ∧ o.testBit k = false := (show ∀ n, n < 6 → ∀ o, o < 2 ^ n → o + 1 < 2 ^ n → ∃ k, k < n ∧ o.testBit k = false by decide) n hn o (by omega) ho
theorem allO {n k : Nat} (hn : n < 6) (hk : k < n) : (2 ^ n - 1).testBit k = true := (show ∀ n, n < 6 → ∀ k, k < n → (2 ^ n - 1).testBit k = true by decide) n hn k hk
theorem allI {n : Nat} (hn : n < 6) : ((1 : Int32) <<< (nI n &&& 31)) - 1 = nI (2 ^ n - 1) ∧ (nI (2 ^ n - 1)) - 1 = bx (2 ^ n - 1) := (show ∀ n, n < 6 → ((1 : Int32) <<< (nI n &&& 31)) - 1 = nI (2 ^ n - 1) ∧ (nI (2 ^ n - 1)) - 1 = bx (2 ^ n - 1) by decide) n hn
theorem pow32 {n : Nat} (hn : n < 6) : 2 ^ n ≤ 32 ∧ 0 < 2 ^ n := (show ∀ n, n < 6 → 2 ^ n ≤ 32 ∧ 0 < 2 ^ n by decide) n hn
theorem orb {o k j : Nat} : (o ||| 2 ^ k).testBit j = (o.testBit j || decide (k = j)) := by rw [Nat.testBit_or, Nat.testBit_two_pow]
theorem zsh {i : Nat} (hi : i < 24) : (0 : Int32) <<< (nI i &&& 31) = 0 := (show ∀ i, i < 24 → (0 : Int32) <<< (nI i &&& 31) = 0 by decide) i hi
def gO (W : Nat → Bool) (o : Nat) : Nat → Bool := fun j => W j && o.testBit (cB W j)
def itK (W : Nat → Bool) (k : Nat) : Nat := findF (fun j => W j && decide (cB W j = k)) 24 0 - 1
theorem cB_inj {i j : Nat} (hi : W i = true) (hj : W j = true) (e : cB W i = cB W j) : i = j := by
  rcases Nat.lt_trichotomy i j with c | c | c
  · have := cB_lt hi c; omega
  · exact c
  · have := cB_lt hj c; omega
theorem cB_surj : ∀ {v k : Nat}, k < cB W v → ∃ j, j < v ∧ W j = true ∧ cB W j = k
  | 0, k, h => absurd h (Nat.not_lt_zero k)
  | v + 1, k, h => by
    rw [cB_s] at h
    by_cases c : k < cB W v
    · obtain ⟨j, a, b⟩ := cB_surj c
      exact ⟨j, by omega, b⟩
    · by_cases w : W v = true
      · rw [if_pos w] at h; exact ⟨v, by omega, w, by omega⟩
      · rw [if_neg w] at h; omega
theorem itK_at {j : Nat} (hj : j < 24) (w : W j = true) : itK W (cB W j) = j := by
  unfold itK
  rw [findF_first (fun i => W i && decide (cB W i = cB W j)) 24 0 (j := j) (Nat.zero_le _) (by omega) (by rw [w, decide_eq_true rfl]; rfl) (fun i _ hi => ?_), Nat.add_sub_cancel]
  by_cases wi' : W i = true
  · have := cB_lt wi' hi
    rw [wi', decide_eq_false (by omega)]; rfl
  · rw [show W i = false by simpa using wi']; rfl
theorem itK_yes {k : Nat} (hk : k < cB W 24) : itK W k < 24 ∧ W (itK W k) = true ∧ cB W (itK W k) = k := by
  obtain ⟨j, a, b, c⟩ := cB_surj hk
  have e := itK_at a b
  rw [c] at e
  rw [e]; exact ⟨a, b, c⟩
theorem gO_or {o k : Nat} (hk : k < cB W 24) : ∀ j, j < 24 → gO W (o ||| 2 ^ k) j = adG (gO W o) (itK W k) j := fun j hj => by
  obtain ⟨i1, i2, i3⟩ := itK_yes hk
  unfold gO adG
  rw [orb]
  by_cases w : W j = true
  · rw [w, Bool.true_and, Bool.true_and]
    congr 1
    by_cases c : k = cB W j
    · rw [decide_eq_true c, decide_eq_true (cB_inj w i2 (by omega))]
    · rw [decide_eq_false c, decide_eq_false (fun z => c (by rw [z]; omega))]
  · have wf : W j = false := by simpa using w
    rw [wf, decide_eq_false (fun z => by rw [z, i2] at wf; cases wf)]; rfl
theorem gO_rm {o i : Nat} : rmB W (gO W o) i = (W i && !(o.testBit (cB W i))) := by
  unfold rmB gO
  cases W i <;> simp
theorem lf_cong {g g' : Nat → Bool} (h : ∀ j, j < 24 → g j = g' j) : lf W g = lf W g' := sE_cong (n := 24) (fun k hk => by unfold rmB; rw [h k hk])
theorem lf_or {o k : Nat} (hk : k < cB W 24) (hb : o.testBit k = false) : lf W (gO W (o ||| 2 ^ k)) + 1 = lf W (gO W o) := by
  obtain ⟨i1, i2, i3⟩ := itK_yes hk
  rw [lf_cong (gO_or hk)]
  exact lf_ad i1 (by rw [gO_rm, i2, i3, hb]; rfl)
theorem lf_0 : lf W (gO W 0) = cB W 24 := by
  unfold lf cB
  refine sE_cong (n := 24) (fun k hk => ?_)
  rw [gO_rm, Nat.zero_testBit]; simp
theorem lf_all {n : Nat} (hn : n < 6) (hc : cB W 24 = n) : lf W (gO W (2 ^ n - 1)) = 0 := sE_zero (fun k hk => by
  rw [gO_rm]
  by_cases w : W k = true
  · rw [allO hn (by rw [← hc]; exact cB_lt w hk)]; simp
  · rw [show W k = false by simpa using w]; simp)
end SeekP
section Seek
variable {E : EnvX} {L : Nat} {h : Hp} {nB nT : Nat} {tv : Nat → Nat → Nat} {pk lv : Nat → Nat} {W : Nat → Bool} {post : Hp → Prop}
theorem k70 : ((akd 70 = 1 ∧ 5 ≤ aln 70 ∧ aln 70 < 2147483648) ∧ (akd 71 = 1 ∧ 5 ≤ aln 71 ∧ aln 71 < 2147483648)) ∧ ((akd 72 = 1 ∧ 32 ≤ aln 72 ∧ aln 72 < 2147483648) ∧ (akd 73 = 1 ∧ 32 ≤ aln 73 ∧ aln 73 < 2147483648)) := by decide +kernel
theorem in70 {k : Nat} (hk : k < 5) : inI 70 (nI k) := inI_of k70.1.1.1 (by have := k70.1.1.2.1; omega) k70.1.1.2.2
theorem in71 {k : Nat} (hk : k < 5) : inI 71 (nI k) := inI_of k70.1.2.1 (by have := k70.1.2.2.1; omega) k70.1.2.2.2
theorem in72 {k : Nat} (hk : k < 32) : inI 72 (nI k) := inI_of k70.2.1.1 (by have := k70.2.1.2.1; omega) k70.2.1.2.2
theorem in73 {k : Nat} (hk : k < 32) : inI 73 (nI k) := inI_of k70.2.2.1 (by have := k70.2.2.2.1; omega) k70.2.2.2.2
theorem sn_cnt {ws : Nat → Int64} (h8 : nB ≤ 8) (h16 : nT ≤ 16) : ∀ k, (∀ j, j < k → badV nB nT ws j = false) → cB (snK ws k) 24 = k
  | 0, _ => sE_zero (fun j _ => if_neg (by unfold snK; decide))
  | k + 1, hb => by
    have ih := sn_cnt (ws := ws) h8 h16 k (fun j hj => hb j (by omega))
    obtain ⟨i, hi, i24, e, ea, es⟩ := badV_no h8 h16 (hb k (by omega))
    have e1 : sE (fun j => if i = j then 1 else 0) 24 = 1 := by rw [sE_one, if_pos i24]
    unfold cB at ih ⊢
    rw [← e1, ← ih, ← sE_add]
    sorry
end Seek
