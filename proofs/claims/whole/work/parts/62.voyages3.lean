section SeekP
variable {W : Nat → Bool}
theorem bitO {o k : Nat} (ho : o < 32) (hk : k < 5) : ((nI o >>> (nI k &&& 31)) &&& 1) = if o.testBit k = true then 1 else 0 := (show ∀ o, o < 32 → ∀ k, k < 5 → ((nI o >>> (nI k &&& 31)) &&& 1) = if o.testBit k = true then 1 else 0 by decide) o ho k hk
theorem orO {o k : Nat} (ho : o < 32) (hk : k < 5) : nI o ||| ((1 : Int32) <<< (nI k &&& 31)) = nI (o ||| 2 ^ k) := (show ∀ o, o < 32 → ∀ k, k < 5 → nI o ||| ((1 : Int32) <<< (nI k &&& 31)) = nI (o ||| 2 ^ k) by decide) o ho k hk
theorem upO {n o k : Nat} (hn : n < 6) (ho : o < 2 ^ n) (hk : k < n) (hb : o.testBit k = false) : o < o ||| 2 ^ k ∧ o ||| 2 ^ k < 2 ^ n := by
  refine (show ∀ n, n < 6 → ∀ o, o < 2 ^ n → ∀ k, k < n → o.testBit k = false → o < o ||| 2 ^ k ∧ o ||| 2 ^ k < 2 ^ n by decide) n hn o ho k hk hb
theorem someO {n o : Nat} (hn : n < 6) (ho : o + 1 < 2 ^ n) : ∃ k, k < n ∧ o.testBit k = false := (show ∀ n, n < 6 → ∀ o, o < 2 ^ n → o + 1 < 2 ^ n → ∃ k, k < n ∧ o.testBit k = false by decide) n hn o (by omega) ho
theorem allO {n k : Nat} (hn : n < 6) (hk : k < n) : (2 ^ n - 1).testBit k = true := (show ∀ n, n < 6 → ∀ k, k < n → (2 ^ n - 1).testBit k = true by decide) n hn k hk
theorem allI {n : Nat} (hn : n < 6) : ((1 : Int32) <<< (nI n &&& 31)) - 1 = nI (2 ^ n - 1) ∧ (nI (2 ^ n - 1)) - 1 = bx (2 ^ n - 1) := (show ∀ n, n < 6 → ((1 : Int32) <<< (nI n &&& 31)) - 1 = nI (2 ^ n - 1) ∧ (nI (2 ^ n - 1)) - 1 = bx (2 ^ n - 1) by decide) n hn
theorem pow32 {n : Nat} (hn : n < 6) : 2 ^ n ≤ 32 ∧ 0 < 2 ^ n := (show ∀ n, n < 6 → 2 ^ n ≤ 32 ∧ 0 < 2 ^ n by decide) n hn
theorem orb {o k j : Nat} : (o ||| 2 ^ k).testBit j = (o.testBit j || decide (k = j)) := by rw [Nat.testBit_or, Nat.testBit_two_pow]
theorem zsh {i : Nat} (hi : i < 24) : (0 : Int32) <<< (nI i &&& 31) = 0 := (show ∀ i, i < 24 → (0 : Int32) <<< (nI i &&& 31) = 0 by decide) i hi
def gO (W : Nat → Bool) (o : Nat) : Nat → Bool := fun j => W j && o.testBit (cB W j)
def itK (W : Nat → Bool) (k : Nat) : Nat := findF (fun j => W j && decide (cB W j = k)) 24 0 - 1
theorem cB_inj {i j : Nat} (hi : W i = true) (hj : W j = true) (e : cB W i = cB W j) : i = j := by
  rcases Nat.lt_trichotomy i j with c | c | c
  · have := cB_lt hi c; omega
  · exact c
  · have := cB_lt hj c; omega
theorem cB_surj : ∀ {v k : Nat}, k < cB W v → ∃ j, j < v ∧ W j = true ∧ cB W j = k
  | 0, k, h => absurd h (Nat.not_lt_zero k)
  | v + 1, k, h => by
    rw [cB_s] at h
    by_cases c : k < cB W v
    · obtain ⟨j, a, b⟩ := cB_surj c
      exact ⟨j, by omega, b⟩
    · by_cases w : W v = true
      · rw [if_pos w] at h; exact ⟨v, by omega, w, by omega⟩
      · rw [if_neg w] at h; omega
theorem itK_at {j : Nat} (hj : j < 24) (w : W j = true) : itK W (cB W j) = j := by
  unfold itK
  rw [findF_first (fun i => W i && decide (cB W i = cB W j)) 24 0 (j := j) (Nat.zero_le _) (by omega) (by rw [w, decide_eq_true rfl]; rfl) (fun i _ hi => ?_), Nat.add_sub_cancel]
  by_cases wi' : W i = true
  · have := cB_lt wi' hi
    rw [wi', decide_eq_false (by omega)]; rfl
  · rw [show W i = false by simpa using wi']; rfl
theorem itK_yes {k : Nat} (hk : k < cB W 24) : itK W k < 24 ∧ W (itK W k) = true ∧ cB W (itK W k) = k := by
  obtain ⟨j, a, b, c⟩ := cB_surj hk
  have e := itK_at a b
  rw [c] at e
  rw [e]; exact ⟨a, b, c⟩
theorem gO_or {o k : Nat} (hk : k < cB W 24) : ∀ j, j < 24 → gO W (o ||| 2 ^ k) j = adG (gO W o) (itK W k) j := fun j hj => by
  obtain ⟨i1, i2, i3⟩ := itK_yes hk
  show (W j && (o ||| 2 ^ k).testBit (cB W j)) = ((W j && o.testBit (cB W j)) || decide (j = itK W k))
  rw [orb]
  by_cases w : W j = true
  · rw [w, Bool.true_and, Bool.true_and]
    congr 1
    by_cases c : k = cB W j
    · rw [decide_eq_true c, decide_eq_true (cB_inj w i2 (by omega))]
    · rw [decide_eq_false c, decide_eq_false (fun z => c (by rw [z]; omega))]
  · have wf : W j = false := by simpa using w
    have ne : ¬ j = itK W k := fun z => by rw [z, i2] at wf; cases wf
    rw [wf, decide_eq_false ne]; rfl
theorem gO_rm {o i : Nat} : rmB W (gO W o) i = (W i && !(o.testBit (cB W i))) := by
  unfold rmB gO
  cases W i <;> simp
theorem lf_cong {g g' : Nat → Bool} (h : ∀ j, j < 24 → g j = g' j) : lf W g = lf W g' := sE_cong (n := 24) (fun k hk => by unfold rmB; rw [h k hk])
theorem lf_or {o k : Nat} (hk : k < cB W 24) (hb : o.testBit k = false) : lf W (gO W (o ||| 2 ^ k)) + 1 = lf W (gO W o) := by
  obtain ⟨i1, i2, i3⟩ := itK_yes hk
  rw [lf_cong (gO_or hk)]
  exact lf_ad i1 (by rw [gO_rm, i2, i3, hb]; rfl)
theorem lf_0 : lf W (gO W 0) = cB W 24 := by
  unfold lf cB
  refine sE_cong (n := 24) (fun k hk => ?_)
  rw [gO_rm, Nat.zero_testBit]; simp
theorem lf_all {n : Nat} (hn : n < 6) (hc : cB W 24 = n) : lf W (gO W (2 ^ n - 1)) = 0 := sE_zero (fun k hk => by
  rw [gO_rm]
  by_cases w : W k = true
  · rw [allO hn (by rw [← hc]; exact cB_lt w hk)]; simp
  · rw [show W k = false by simpa using w]; simp)
end SeekP
section Seek
variable {E : EnvX} {L : Nat} {h : Hp} {nB nT : Nat} {tv : Nat → Nat → Nat} {pk lv : Nat → Nat} {W : Nat → Bool} {post : Hp → Prop}
theorem k70 : ((akd 70 = 1 ∧ 5 ≤ aln 70 ∧ aln 70 < 2147483648) ∧ (akd 71 = 1 ∧ 5 ≤ aln 71 ∧ aln 71 < 2147483648)) ∧ ((akd 72 = 1 ∧ 32 ≤ aln 72 ∧ aln 72 < 2147483648) ∧ (akd 73 = 1 ∧ 32 ≤ aln 73 ∧ aln 73 < 2147483648)) := by decide +kernel
theorem in70 {k : Nat} (hk : k < 5) : inI 70 (nI k) := inI_of k70.1.1.1 (by have := k70.1.1.2.1; omega) k70.1.1.2.2
theorem in71 {k : Nat} (hk : k < 5) : inI 71 (nI k) := inI_of k70.1.2.1 (by have := k70.1.2.2.1; omega) k70.1.2.2.2
theorem in72 {k : Nat} (hk : k < 32) : inI 72 (nI k) := inI_of k70.2.1.1 (by have := k70.2.1.2.1; omega) k70.2.1.2.2
theorem in73 {k : Nat} (hk : k < 32) : inI 73 (nI k) := inI_of k70.2.2.1 (by have := k70.2.2.2.1; omega) k70.2.2.2.2
theorem sn_cnt {ws : Nat → Int64} (h8 : nB ≤ 8) (h16 : nT ≤ 16) : ∀ k, (∀ j, j < k → badV nB nT ws j = false) → cB (snK ws k) 24 = k
  | 0, _ => sE_zero (fun j _ => if_neg (by unfold snK; decide))
  | k + 1, hb => by
    have ih := sn_cnt (ws := ws) h8 h16 k (fun j hj => hb j (by omega))
    obtain ⟨i, hi, i24, e, ea, es⟩ := badV_no h8 h16 (hb k (by omega))
    have e1 : sE (fun j => if i = j then 1 else 0) 24 = 1 := by rw [sE_one, if_pos i24]
    suffices e2 : cB (snK ws (k + 1)) 24 = cB (snK ws k) 24 + sE (fun j => if i = j then 1 else 0) 24 by rw [e2, e1, ih]
    unfold cB
    rw [← sE_add]
    refine sE_cong (n := 24) (fun j hj => ?_)
    rw [snK_s i24 e j hj]
    by_cases q : i = j
    · subst q
      rw [es, if_pos rfl, decide_eq_true rfl]; rfl
    · rw [decide_eq_false (fun z => q z.symm), Bool.or_false, if_neg q, Nat.add_zero]
theorem vo_sortIn (hE : EOk E) (hL : 3 ≤ L) {row n : Nat} (hr : cls row = 7) (hrow : row < 60) (hm : h.1 row 2 = nI n) (hn : n ≤ 5) (h8 : nB ≤ 8) (h16 : nT ≤ 16) (hb : ∀ j, j < n → badV nB nT (h.2.2 (row + 1)) j = false) : ConV E L m_Voyage_sortIn 69 [.ref row] h (fun h' => EqO (fun q => q = 69 ∨ q = 70) h h' ∧ h'.1 69 6 = nI n ∧ ∀ j, j < 24 → snK (h.2.2 (row + 1)) n j = true → h'.2.1 70 (cB (snK (h.2.2 (row + 1)) n) j) = nI j) := by
  have m1 : RdI E (L - 1) m_Row_many row [] h (nI n) := by rw [← hm]; exact row_many hE (by omega) hr
  have hc := sn_cnt (ws := h.2.2 (row + 1)) h8 h16 n hb
  refine B_Voyage_sortIn hE (by omega) ?_
  have l36 : ∀ m i, m + i = 24 → ∀ v, Mk v (snK (h.2.2 (row + 1)) n) → ∀ h1, EqO (fun q => q = 69 ∨ q = 70) h h1 → h1.1 69 6 = nI (cB (snK (h.2.2 (row + 1)) n) i) → (∀ j, j < i → snK (h.2.2 (row + 1)) n j = true → h1.2.1 70 (cB (snK (h.2.2 (row + 1)) n) j) = nI j) → at_Voyage_sortIn_36 E L h1 (fun h' => EqO (fun q => q = 69 ∨ q = 70) h h' ∧ h'.1 69 6 = nI n ∧ ∀ j, j < 24 → snK (h.2.2 (row + 1)) n j = true → h'.2.1 70 (cB (snK (h.2.2 (row + 1)) n) j) = nI j) v (nI i) := by
    generalize snK (h.2.2 (row + 1)) n = W at hc
    intro m
    induction m with
    | zero =>
      intro i hi v mv h1 e e6 a
      rw [show i = 24 by omega] at e6 a ⊢
      exact B_Voyage_sortIn_36 (brT (nEnd 24) ⟨e, by rw [e6, hc], a⟩)
    | succ m ih =>
      intro i hi v mv h1 e e6 a
      have i24 : i < 24 := by omega
      have cl := cB_mono W (u := i) (v := 24) (by omega)
      refine B_Voyage_sortIn_36 (brF (nG 24 i24) ?_)
      rw [e6, show (5 : Int32) = nI 5 from rfl, nIl (by omega) (by omega), mk_test mv i24, nIc (by omega)]
      refine ⟨fun c => ⟨e, congrArg nI (show cB W i = n by omega), fun j hj wj => ?_⟩, fun c => ?_⟩
      · by_cases d : j < i
        · exact a j d wj
        · have c1 := cB_lt wj hj
          have c2 := cB_mono W (u := i) (v := j) (by omega)
          omega
      · by_cases w : W i = true
        · rw [if_pos w]
          refine brF (by decide) ⟨in70 (by omega), ?_⟩
          rw [sA_1, e6, nI_1, nI_1]
          refine ih (i + 1) (by omega) v mv _ ((e.trans (EqO.sA (F := fun q => q = 69 ∨ q = 70) (Or.inr rfl))).trans (EqO.sI (F := fun q => q = 69 ∨ q = 70) (Or.inl rfl))) ?_ (fun j hj wj => ?_)
          · rw [sI_1, if_pos rfl, if_pos rfl, cB_s, if_pos w]
          · rw [sI_A, sA_A, if_pos rfl]
            by_cases d : j = i
            · rw [d, if_pos rfl]
            · rw [if_neg (fun z => d (cB_inj wj w z))]; exact a j (by omega) wj
        · rw [if_neg w, nI_1]
          refine brT rfl (ih (i + 1) (by omega) v mv h1 e ?_ (fun j hj wj => ?_))
          · rw [e6, cB_s, if_neg w, Nat.add_zero]
          · by_cases d : j = i
            · rw [d] at wj; exact absurd wj w
            · exact a j (by omega) wj
  refine upto (P := fun k => ∀ v, Mk v (snK (h.2.2 (row + 1)) k) → at_Voyage_sortIn_4 E L h _ row v (nI k)) (n := n) (fun v mv => ?_) (fun k hk ih v mv => ?_) 0 (by omega) 0 (mk_cong mk_0 (fun i _ => rfl))
  · refine B_Voyage_sortIn_4 (m1.use (brT (nI_le (Nat.le_refl _) (by omega)) (l36 24 0 (by omega) v mv _ (EqO.sI (F := fun q => q = 69 ∨ q = 70) (Or.inl rfl)) ?_ (fun j hj => absurd hj (Nat.not_lt_zero j)))))
    rw [sI_1, if_pos rfl, if_pos rfl]; rfl
  · obtain ⟨i, hi, i24, e, ea, es⟩ := badV_no h8 h16 (hb k hk)
    have nm := snK_mk mv i24 e
    refine B_Voyage_sortIn_4 (m1.use (brF (nI_ge hk (by omega)) ((row_get hE (by omega) hr hm (by omega) hk).use ?_)))
    rw [nI_1]
    exact ih _ nm
/-- one set: the next one to lift -/
def chPost (pk lv : Nat → Nat) (W : Nat → Bool) (o m : Nat) (h h' : Hp) : Prop := EqO (fun q => q = 72 ∨ q = 73) h h' ∧ (∀ t, t ≠ o → h'.2.1 72 t = h.2.1 72 t ∧ h'.2.1 73 t = h.2.1 73 t) ∧ h'.2.1 72 o = nI (opt pk lv W (m + 1) (gO W o)) ∧ h'.2.1 73 o = nI (cB W ((amO pk lv W m (gO W o) 24).1 - 1))
theorem vo_choose (hE : EOk E) (hL : 5 ≤ L) (Y : LyV h 3 pk lv) {n o m : Nat} (hn : n < 6) (ho : o + 1 < 2 ^ n) (hc : cB W 24 = n) (h6 : h.1 69 6 = nI n) (hit : ∀ j, j < 24 → W j = true → h.2.1 70 (cB W j) = nI j) (hm : lf W (gO W o) = m + 1) (h72 : ∀ k, k < n → o.testBit k = false → h.2.1 72 (o ||| 2 ^ k) = nI (opt pk lv W (lf W (gO W (o ||| 2 ^ k))) (gO W (o ||| 2 ^ k)))) : ConV E L m_Voyage_chooseNext 69 [.int (nI o)] h (chPost pk lv W o m h) := by
  have hp : ∀ i, i < 24 → pk i ≤ 8 := fun i hi => (Y.2.1 i hi).2
  have p32 := pow32 hn
  have o32 : o < 32 := by omega
  have pl := am_places (W := W) (p := fun k => !(o.testBit k)) (f := fun k => lft pk lv (gO W o) 9 (itK W k + 1) + opt pk lv W m (adG (gO W o) (itK W k))) (p' := rmB W (gO W o)) (f' := fun i => lft pk lv (gO W o) 9 (i + 1) + opt pk lv W m (adG (gO W o) i)) (v := 24) (fun i hi => gO_rm) (fun i hi r => by
    rw [gO_rm, Bool.and_eq_true] at r
    rw [itK_at hi r.1])
  rw [hc] at pl
  obtain ⟨pl2, pl0, pl1⟩ := pl
  have nz : (am (rmB W (gO W o)) (fun i => lft pk lv (gO W o) 9 (i + 1) + opt pk lv W m (adG (gO W o) i)) 24).1 ≠ 0 := lf_am (pk := pk) (lv := lv) hm
  refine B_Voyage_chooseNext hE (by omega) ?_
  -- the best of the places
  have l38 : ∀ v2, Mk v2 (gO W o) → ∀ f k, f + k = n → ∀ h1, EqO (fun q => q = 73) h h1 → (∀ t, t ≠ o → h1.2.1 73 t = h.2.1 73 t) → ((am (fun k => !(o.testBit k)) (fun k => lft pk lv (gO W o) 9 (itK W k + 1) + opt pk lv W m (adG (gO W o) (itK W k))) k).1 ≠ 0 → h1.2.1 73 o = nI ((am (fun k => !(o.testBit k)) (fun k => lft pk lv (gO W o) 9 (itK W k + 1) + opt pk lv W m (adG (gO W o) (itK W k))) k).1 - 1)) → at_Voyage_chooseNext_38 E L h1 (chPost pk lv W o m h) (nI o) v2 (bx (if (am (fun k => !(o.testBit k)) (fun k => lft pk lv (gO W o) 9 (itK W k + 1) + opt pk lv W m (adG (gO W o) (itK W k))) k).1 = 0 then 0 else (am (fun k => !(o.testBit k)) (fun k => lft pk lv (gO W o) 9 (itK W k + 1) + opt pk lv W m (adG (gO W o) (itK W k))) k).2 + 1)) (nI k) := by
    intro v2 mv2 f
    induction f with
    | zero =>
      intro k hk h1 e a b
      rw [show k = n by omega] at b ⊢
      have nz2 := fun z => nz (pl0.mpr z)
      refine B_Voyage_chooseNext_38 ?_
      rw [(e 69 (by omega)).1, h6, nIc (by omega), if_neg nz2, bx_S]
      refine brT (nI_le (Nat.le_refl _) (by omega)) ⟨in72 o32, (e.wk (fun q z => Or.inr z)).trans (EqO.sA (F := fun q => q = 72 ∨ q = 73) (Or.inl rfl)), fun t ht => ⟨?_, ?_⟩, ?_, ?_⟩
      · rw [sA_A, if_pos rfl, if_neg ht, (e 72 (by omega)).2.1]
      · rw [sA_A, if_neg (by omega)]; exact a t ht
      · rw [sA_A, if_pos rfl, if_pos rfl, ← pl2]; rfl
      · rw [sA_A, if_neg (by omega), b nz2, pl1 nz]; rfl
    | succ f ih =>
      intro k hk h1 e a b
      have k5 : k < 5 := by omega
      have kn : k < n := by omega
      obtain ⟨i24, iW, ic⟩ := itK_yes (W := W) (k := k) (by omega)
      have Y1 : LyV h1 3 pk lv := LyV_eq Y (e 4 (by omega)).2.1 (e 5 (by omega)).2.1
      refine B_Voyage_chooseNext_38 ?_
      rw [(e 69 (by omega)).1, h6, bitO o32 k5, orO o32 k5, nIc (show k < 2147483648 by omega), nIc (show o < 2147483648 by omega), show h1.2.1 70 k = nI (itK W k) by
        have := hit _ i24 iW
        rw [ic] at this
        rw [(e 70 (by omega)).2.1]; exact this]
      refine brF (nI_ge kn (by omega)) ?_
      by_cases tb : o.testBit k = true
      · rw [if_pos tb, nI_1]
        have aS : ∀ F : Nat → Nat, am (fun k => !(o.testBit k)) F (k + 1) = am (fun k => !(o.testBit k)) F k := fun F => by rw [am_s, if_neg (by rw [tb]; decide)]
        have r1 := ih (k + 1) (by omega) h1 e a (by rw [aS]; exact b)
        rw [aS] at r1
        exact brF' (by decide) r1
      · have tf : o.testBit k = false := by simpa using tb
        rw [if_neg tb]
        have up := upO hn (by omega) kn tf
        have e72 := h72 k kn tf
        rw [show lf W (gO W (o ||| 2 ^ k)) = m by have := lf_or (W := W) (by omega) tf; omega, opt_cong hp m (gO_or (W := W) (by omega))] at e72
        refine brT' rfl ⟨in70 k5, (vo_lft hE (by omega) Y1 i24 mv2).use ⟨in72 (by omega), ?_⟩⟩
        rw [nIc (show o ||| 2 ^ k < 2147483648 by omega), (e 72 (by omega)).2.1, e72, nI_add, nI_1]
        have ll := lft_le pk lv (gO W o) 9 (itK W k + 1)
        have oll := opt_le (pk := pk) (lv := lv) (W := W) m (adG (gO W o) (itK W k))
        have m24 : m < 24 := by
          have : lf W (gO W o) ≤ 24 * 1 := sE_le (fun k _ => by split <;> omega)
          omega
        have aS : am (fun k => !(o.testBit k)) (fun k => lft pk lv (gO W o) 9 (itK W k + 1) + opt pk lv W m (adG (gO W o) (itK W k))) (k + 1) = if (am (fun k => !(o.testBit k)) (fun k => lft pk lv (gO W o) 9 (itK W k + 1) + opt pk lv W m (adG (gO W o) (itK W k))) k).1 = 0 ∨ lft pk lv (gO W o) 9 (itK W k + 1) + opt pk lv W m (adG (gO W o) (itK W k)) < (am (fun k => !(o.testBit k)) (fun k => lft pk lv (gO W o) 9 (itK W k + 1) + opt pk lv W m (adG (gO W o) (itK W k))) k).2 then (k + 1, lft pk lv (gO W o) 9 (itK W k + 1) + opt pk lv W m (adG (gO W o) (itK W k))) else am (fun k => !(o.testBit k)) (fun k => lft pk lv (gO W o) 9 (itK W k + 1) + opt pk lv W m (adG (gO W o) (itK W k))) k := by
          rw [am_s, if_pos (by rw [tf]; rfl)]
        have ih1 := ih (k + 1) (by omega)
        rw [aS] at ih1
        have hA : (am (fun k => !(o.testBit k)) (fun k => lft pk lv (gO W o) 9 (itK W k + 1) + opt pk lv W m (adG (gO W o) (itK W k))) k).2 < 100000 := by
          by_cases z : (am (fun k => !(o.testBit k)) (fun k => lft pk lv (gO W o) 9 (itK W k + 1) + opt pk lv W m (adG (gO W o) (itK W k))) k).1 = 0
          · rw [am_zero z]; decide
          · have e2 := (am_yes z).2.2
            rw [e2]
            have l2 := lft_le pk lv (gO W o) 9 (itK W ((am (fun k => !(o.testBit k)) (fun k => lft pk lv (gO W o) 9 (itK W k + 1) + opt pk lv W m (adG (gO W o) (itK W k))) k).1 - 1) + 1)
            have o2 := opt_le (pk := pk) (lv := lv) (W := W) m (adG (gO W o) (itK W ((am (fun k => !(o.testBit k)) (fun k => lft pk lv (gO W o) 9 (itK W k + 1) + opt pk lv W m (adG (gO W o) (itK W k))) k).1 - 1)))
            omega
        generalize am (fun k => !(o.testBit k)) (fun k => lft pk lv (gO W o) 9 (itK W k + 1) + opt pk lv W m (adG (gO W o) (itK W k))) k = A at *
        have upd : (A.1 = 0 ∨ lft pk lv (gO W o) 9 (itK W k + 1) + opt pk lv W m (adG (gO W o) (itK W k)) < A.2) → inI 73 (nI o) ∧ at_Voyage_chooseNext_38 E L (sA h1 73 o (nI k)) (chPost pk lv W o m h) (nI o) v2 (nI (lft pk lv (gO W o) 9 (itK W k + 1) + opt pk lv W m (adG (gO W o) (itK W k)))) (nI (k + 1)) := by
          intro d
          rw [if_pos d, if_neg (Nat.succ_ne_zero k), bx_S] at ih1
          refine ⟨in73 o32, ih1 _ (e.trans (EqO.sA (F := fun q => q = 73) rfl)) (fun t ht => ?_) (fun _ => ?_)⟩
          · rw [sA_A, if_pos rfl, if_neg ht]; exact a t ht
          · rw [sA_A, if_pos rfl, if_pos rfl]; rfl
        by_cases z : A.1 = 0
        · rw [if_pos z]
          exact brT rfl (upd (Or.inl z))
        · rw [if_neg z, bx_S]
          refine brF (nIm1 (by omega)) ?_
          rw [nIl (by omega) (by omega)]
          refine ⟨fun d => ?_, fun d => upd (Or.inr (by omega))⟩
          rw [if_neg (by omega), if_neg z, bx_S] at ih1
          exact ih1 h1 e a b
  have l4 : ∀ f k, f + k = n → ∀ v2, Mk v2 (fun j => gO W o j && decide (cB W j < k)) → at_Voyage_chooseNext_4 E L h (chPost pk lv W o m h) (nI o) v2 (nI k) := by
    intro f
    induction f with
    | zero =>
      intro k hk v2 mv
      refine B_Voyage_chooseNext_4 ?_
      rw [h6, show k = n by omega]
      refine brT (nI_le (Nat.le_refl _) (by omega)) (l38 v2 (mk_cong mv (fun j hj => ?_)) n 0 (by omega) h EqO.rfl' (fun _ _ => rfl) (fun z => absurd rfl z))
      by_cases w : W j = true
      · have := cB_lt w hj
        rw [decide_eq_true (by omega), Bool.and_true]
      · unfold gO; rw [show W j = false by simpa using w]; rfl
    | succ f ih =>
      intro k hk v2 mv
      have k5 : k < 5 := by omega
      obtain ⟨i24, iW, ic⟩ := itK_yes (W := W) (k := k) (by omega)
      refine B_Voyage_chooseNext_4 ?_
      rw [h6, bitO o32 k5, nIc (show k < 2147483648 by omega), show h.2.1 70 k = nI (itK W k) by
        have := hit _ i24 iW
        rw [ic] at this; exact this, nI_1]
      have below : ∀ j, j < 24 → ¬ j = itK W k → (gO W o j && decide (cB W j < k)) = (gO W o j && decide (cB W j < k + 1)) := fun j hj ej => by
        by_cases w : W j = true
        · have : cB W j ≠ k := fun z => ej (cB_inj w iW (by omega))
          congr 1
          exact decide_eq_decide.mpr (by omega)
        · have : gO W o j = false := by
            show (W j && o.testBit (cB W j)) = false
            rw [show W j = false by simpa using w]; rfl
          rw [this]; rfl
      refine brF (nI_ge (by omega) (by omega)) ⟨in70 k5, ih (k + 1) (by omega) _ ?_⟩
      by_cases tb : o.testBit k = true
      · rw [if_pos tb]
        refine mk_cong (mk_or mv i24) (fun j hj => ?_)
        by_cases ej : j = itK W k
        · rw [decide_eq_true ej, Bool.or_true, ej, ic, decide_eq_true (Nat.lt_succ_self k), Bool.and_true]
          show true = (W (itK W k) && o.testBit (cB W (itK W k)))
          rw [iW, ic, tb]; rfl
        · rw [decide_eq_false ej, Bool.or_false]
          exact below j hj ej
      · rw [if_neg tb, zsh i24, orz]
        refine mk_cong mv (fun j hj => ?_)
        by_cases ej : j = itK W k
        · have : gO W o j = false := by
            show (W j && o.testBit (cB W j)) = false
            rw [ej, ic, iW, show o.testBit k = false by simpa using tb]; rfl
          rw [this]; rfl
        · exact below j hj ej
  exact l4 n 0 (by omega) 0 (mk_cong mk_0 (fun j _ => by simp))
end Seek
