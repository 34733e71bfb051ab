/-! ===== voyages: what stands on the floor already ===== -/
def pkG (pk : Nat → Nat) (g : Nat → Bool) (i : Nat) : Nat := if g i = true then 0 else pk i
def snK (ws : Nat → Int64) : Nat → Nat → Bool
  | 0, _ => false
  | k + 1, j => snK ws k j || decide (ws k = lN j)
/-- the first that is no item, or stands twice -/
def itW (nB nT : Nat) (w : Int64) : Bool := itB nB nT (aN w) && decide (w = lN (aN w))
def badV (nB nT : Nat) (ws : Nat → Int64) (k : Nat) : Bool := !(itW nB nT (ws k)) || snK ws k (aN (ws k))
theorem itW_yes {nB nT i : Nat} {w : Int64} (h8 : nB ≤ 8) (h16 : nT ≤ 16) (hi : isIt nB nT i) (e : w = lN i) : itW nB nT w = true := by
  have i24 : i < 24 := by rcases hi with q | q <;> omega
  unfold itW
  rw [e, aN_lN (by omega), itB_iff.mpr hi, decide_eq_true rfl]; rfl
theorem itW_of {nB nT : Nat} {w : Int64} (h : itW nB nT w = true) : ∃ i, isIt nB nT i ∧ w = lN i := by
  unfold itW at h
  rw [Bool.and_eq_true, decide_eq_true_eq] at h
  exact ⟨aN w, itB_iff.mp h.1, h.2⟩
theorem pkG_l {pk : Nat → Nat} {g : Nat → Bool} {i : Nat} : pkG pk g i ≤ pk i := by
  unfold pkG; split
  · exact Nat.zero_le _
  · exact Nat.le_refl _
theorem pkG_t {pk : Nat → Nat} {g : Nat → Bool} {i : Nat} (h : g i = true) : pkG pk g i = 0 := if_pos h
theorem pkG_f {pk : Nat → Nat} {g : Nat → Bool} {i : Nat} (h : g i = false) : pkG pk g i = pk i := if_neg (by rw [h]; decide)
theorem itn_G {pk : Nat → Nat} {g : Nat → Bool} : ∀ n c, itn pk n c = 0 → itn (pkG pk g) n c = 0
  | 0, _, h => h
  | n + 1, c, h => by
    cases c with
    | zero => exact itn_0 _ (n + 1)
    | succ j =>
      rw [itn_s, nx_S] at h ⊢
      by_cases q : g j = true
      · rw [pkG_t q]; exact itn_0 _ n
      · rw [pkG_f (by simpa using q)]; exact itn_G n _ h
theorem acy_G {pk : Nat → Nat} {g : Nat → Bool} (hA : acy pk) : acy (pkG pk g) := fun c hc => itn_G 9 c (hA c hc)
theorem pkG_up {pk : Nat → Nat} {g : Nat → Bool} {i : Nat} : upN (pkG pk g) i 0 = pkG pk (fun j => g j || decide (j = i)) := funext (fun j => by
  unfold upN pkG
  show (if j = i then 0 else if g j = true then 0 else pk j) = if (g j || decide (j = i)) = true then 0 else pk j
  by_cases q : j = i
  · rw [if_pos q, if_pos (by rw [decide_eq_true q, Bool.or_true])]
  · rw [if_neg q, decide_eq_false q, Bool.or_false])
theorem lft_cong {pk lv : Nat → Nat} {g g' : Nat → Bool} (hp : ∀ i, i < 24 → pk i ≤ 8) (hg : ∀ j, j < 24 → g j = g' j) : ∀ n c, c ≤ 24 → lft pk lv g n c = lft pk lv g' n c
  | 0, _, _ => rfl
  | n + 1, c, hc => by
    cases c with
    | zero => simp [lft]
    | succ j =>
      have hj : j < 24 := by omega
      have hpj := hp j hj
      simp only [lft, if_neg (Nat.succ_ne_zero j), Nat.add_sub_cancel, nx_S]
      rw [hg j hj, lft_cong hp hg n (pk j) (by omega)]
      have e : mAb pk lv g (j + 1) = mAb pk lv g' (j + 1) := by
        unfold mAb
        split
        · rfl
        · exact sE_cong (n := 24) (fun k hk => by rw [hg k hk])
      rw [e]
theorem over_eqG {pk lv sn : Nat → Nat} {ck : Nat} (hO : OrdV pk lv sn ck) (hp : ∀ i, i < 24 → pk i ≤ 8) {g : Nat → Bool} : ∀ (n c : Nat), c ≤ 24 → itn pk n c = 0 → sE (fun k => if ow (pkG pk g) sn k n c = true then 1 else 0) 24 = lft pk lv g n c := by
  intro n
  induction n with
  | zero => intro c _ _; exact sE_zero (fun k _ => by simp [ow])
  | succ n ih =>
    intro c hc hz
    cases c with
    | zero => rw [show lft pk lv g (n + 1) 0 = 0 by simp [lft]]; exact sE_zero (fun k _ => by simp [ow])
    | succ j =>
      have hz' := itn_G (g := g) _ _ hz
      rw [itn_s, nx_S] at hz
      have hj : j < 24 := by omega
      have hpj := hp j hj
      by_cases gj : g j = true
      · rw [show lft pk lv g (n + 1) (j + 1) = 0 by simp only [lft, if_neg (Nat.succ_ne_zero j), Nat.add_sub_cancel, if_pos gj]]
        refine sE_zero (fun k _ => if_neg ?_)
        simp only [ow, if_neg (Nat.succ_ne_zero j), nx_S, Nat.add_sub_cancel, pkG_t gj]
        rw [if_neg (fun z => z.1 rfl)]
        cases n with
        | zero => simp [ow]
        | succ n => simp [ow]
      · have gf : g j = false := by simpa using gj
        have gp := pkG_f (pk := pk) gf
        have ih1 := ih (pk j) (by omega) hz
        have e1 : lft pk lv g (n + 1) (j + 1) = mAb pk lv g (j + 1) + lft pk lv g n (pk j) := by
          simp only [lft, if_neg (Nat.succ_ne_zero j), Nat.add_sub_cancel, if_neg gj, nx_S]
        rw [e1, ← ih1]
        have e2 : mAb pk lv g (j + 1) = sE (fun k => if pk j ≠ 0 ∧ pkG pk g k = pk j ∧ sn j < sn k then 1 else 0) 24 := by
          unfold mAb
          rw [nx_S]
          by_cases q : pk j = 0
          · rw [if_pos q]
            exact (sE_zero (fun k _ => if_neg (fun z => z.1 q))).symm
          · rw [if_neg q]
            refine sE_cong (fun k hk => ?_)
            rw [Nat.add_sub_cancel]
            by_cases gk : g k = true
            · rw [if_neg (fun z => by rw [gk] at z; cases z.2.2), if_neg (fun z => by rw [pkG_t gk] at z; exact q z.2.1.symm)]
            · have gkf : g k = false := by simpa using gk
              rw [pkG_f gkf]
              by_cases a : pk k = pk j
              · have h1 := hO.1 j hj q
                have h2 := hO.1 k hk (by rw [a]; exact q)
                have h3 := rk_lt (pk := pk) (sn := sn) (i := j) (j := k) hj a.symm
                rw [← h1, ← h2] at h3
                by_cases b : sn j < sn k
                · rw [if_pos ⟨a, h3.mpr b, gkf⟩, if_pos ⟨q, a, b⟩]
                · rw [if_neg (fun z => b (h3.mp z.2.1)), if_neg (fun z => b z.2.2)]
              · rw [if_neg (fun z => a z.1), if_neg (fun z => a z.2.1)]
        rw [e2, ← sE_add]
        refine sE_cong (fun k hk => ?_)
        rw [itn_s, nx_S, gp] at hz'
        by_cases a : pk j ≠ 0 ∧ pkG pk g k = pk j ∧ sn j < sn k
        · rw [if_pos a]
          have f1 : ow (pkG pk g) sn k (n + 1) (j + 1) = true := by
            simp only [ow, if_neg (Nat.succ_ne_zero j), nx_S, Nat.add_sub_cancel, gp, if_pos a]
          have f2 : ¬ ow (pkG pk g) sn k n (pk j) = true := by
            intro z
            obtain ⟨m, hm⟩ := ow_yes z
            rw [← itn_end, a.2.1] at hm
            exact no_cyc a.1 hm n hz'
          rw [if_pos f1, if_neg f2]
        · rw [if_neg a]
          have f1 : ow (pkG pk g) sn k (n + 1) (j + 1) = ow (pkG pk g) sn k n (pk j) := by
            simp only [ow, if_neg (Nat.succ_ne_zero j), nx_S, Nat.add_sub_cancel, gp, if_neg a]
          rw [f1, Nat.zero_add]
theorem badV_no {nB nT : Nat} {ws : Nat → Int64} {k : Nat} (h8 : nB ≤ 8) (h16 : nT ≤ 16) (h : badV nB nT ws k = false) : ∃ i, isIt nB nT i ∧ i < 24 ∧ ws k = lN i ∧ aN (ws k) = i ∧ snK ws k i = false := by
  unfold badV at h
  rw [Bool.or_eq_false_iff] at h
  have h1 : ∃ i, isIt nB nT i ∧ ws k = lN i := itW_of (by simpa using h.1)
  obtain ⟨i, hi, e⟩ := h1
  have i24 : i < 24 := by rcases hi with q | q <;> omega
  have ea : aN (ws k) = i := by rw [e]; exact aN_lN (by omega)
  exact ⟨i, hi, i24, e, ea, by rw [← ea]; exact h.2⟩
theorem snK_s {ws : Nat → Int64} {k i : Nat} (hi : i < 24) (e : ws k = lN i) : ∀ j, j < 24 → snK ws (k + 1) j = (snK ws k j || decide (j = i)) := fun j hj => by
  show (snK ws k j || decide (ws k = lN j)) = _
  rw [e]
  congr 1
  by_cases q : j = i
  · rw [decide_eq_true q, decide_eq_true (by rw [q])]
  · rw [decide_eq_false q, decide_eq_false (fun z => q ?_)]
    have := congrArg aN z
    rw [aN_lN (by omega), aN_lN (by omega)] at this
    exact this.symm
theorem snK_mk {ws : Nat → Int64} {k i : Nat} {v : Int32} (mv : Mk v (snK ws k)) (hi : i < 24) (e : ws k = lN i) : Mk (v ||| ((1 : Int32) <<< ((ws k).toInt32 &&& 31))) (snK ws (k + 1)) := by
  rw [e, lN_i]
  exact mk_cong (mk_or mv hi) (fun j hj => (snK_s hi e j hj).symm)
theorem MsV_pk {h : Hp} {o nB nT : Nat} {tv : Nat → Nat → Nat} {pk pk' sn : Nat → Nat} {ck : Nat} (M : MsV h o nB nT tv pk sn ck) (a : ∀ j, j < 24 → pk' j = pk j) : MsV h o nB nT tv pk' sn ck := by
  obtain ⟨m0, m9, m1, m2, m3, m4⟩ := M
  exact ⟨m0, m9, m1, fun i hi => by rw [a i hi]; exact m2 i hi, m3, fun i hi z => by rw [a i hi]; exact m4 i hi z⟩
section Voy
variable {E : EnvX} {L : Nat} {h : Hp} {K : Nat} {nB nT : Nat} {tv : Nat → Nat → Nat} {pk lv sn : Nat → Nat} {ck : Nat}
theorem vo_areItems (hE : EOk E) (hL : 4 ≤ L) (S : StV h 1 nB nT tv) {row n mx : Nat} (hr : cls row = 7) (hm : h.1 row 2 = nI n) (hn : n ≤ 40) (hmx : mx ≤ 40) : RdI E L m_Voyage_areItems 69 [.ref row, .int (nI mx)] h (if findF (badV nB nT (h.2.2 (row + 1))) n 0 = 0 ∧ n ≤ mx then 1 else 0) := by
  have h8 := S.2.2.2.1
  have h16 := S.2.2.2.2.1
  have m1 : RdI E (L - 1) m_Row_many row [] h (nI n) := by rw [← hm]; exact row_many hE (by omega) hr
  refine B_Voyage_areItems hE (by omega) ?_
  refine find_loop (A := fun k => ∀ v, Mk v (snK (h.2.2 (row + 1)) k) → at_Voyage_areItems_5 E L h _ row (nI mx) v (nI k)) (Z := fun c => ((if findF (badV nB nT (h.2.2 (row + 1))) n 0 = 0 ∧ n ≤ mx then (1 : Int32) else 0) = (if c = 0 ∧ n ≤ mx then 1 else 0))) (p := badV nB nT (h.2.2 (row + 1))) (N := n) (fun z v mv => ?_) (fun k hk c z v mv => ?_) (fun k hk c ih v mv => ?_) n 0 (by omega) rfl 0 (mk_cong mk_0 (fun i _ => rfl))
  · refine B_Voyage_areItems_5 (m1.use (brT (nI_le (Nat.le_refl _) (by omega)) (m1.use ?_)))
    rw [z, nIt (by omega) (by omega)]
    by_cases q : n ≤ mx
    · rw [if_pos ⟨rfl, q⟩]; exact brF (by omega) ⟨rfl, rfl⟩
    · rw [if_neg (fun w => q w.2)]; exact brT (by omega) ⟨rfl, rfl⟩
  · refine B_Voyage_areItems_5 (m1.use (brF (nI_ge hk (by omega)) ((row_get hE (by omega) hr hm hn hk).use ?_)))
    rw [z, if_neg (fun w => Nat.succ_ne_zero k w.1)]
    by_cases q : ∃ i, isIt nB nT i ∧ h.2.2 (row + 1) k = lN i
    · obtain ⟨i, hi, e⟩ := q
      have i24 : i < 24 := by rcases hi with q | q <;> omega
      have y1 := hasItem_yes hE (L := L - 1) (by omega) S hi
      unfold badV at c
      rw [itW_yes h8 h16 hi e, e, aN_lN (by omega)] at c
      rw [e]
      refine y1.use (brF (by decide) ?_)
      rw [lN_i, mk_test mv i24, if_pos (by simpa using c)]
      exact brF (by decide) ⟨rfl, rfl⟩
    · exact (hasItem_no hE (by omega) S (fun i hi e => q ⟨i, hi, e⟩)).use (brT rfl ⟨rfl, rfl⟩)
  · obtain ⟨i, hi, i24, e, ea, es⟩ := badV_no h8 h16 c
    have y1 := hasItem_yes hE (L := L - 1) (by omega) S hi
    have nm := snK_mk mv i24 e
    refine B_Voyage_areItems_5 (m1.use (brF (nI_ge hk (by omega)) ((row_get hE (by omega) hr hm hn hk).use ?_)))
    rw [e] at nm ⊢
    refine y1.use (brF (by decide) ?_)
    have t : ((v >>> ((lN i).toInt32 &&& 31)) &&& 1) = 0 := by rw [lN_i, mk_test mv i24, if_neg (by rw [es]; decide)]
    rw [nI_1]
    exact brT t (ih _ nm)
theorem m_areItems (hE : EOk E) (hL : 4 ≤ L) (M : MdV h nB nT tv pk sn ck) {r n : Nat} {ws : Nat → Int64} (hr : r < 4) (hn : n ≤ 40) (hm : h.2.1 94 r = nI n) (hw : ∀ k, k < n → h.2.2 95 (40 * r + k) = ws k) : RdI E L m_M_areItems 74 [.int (nI r)] h (if findF (badV nB nT ws) n 0 = 0 then 1 else 0) := by
  have h8 := M.1.1
  have h16 := M.1.2.1
  refine B_M_areItems hE (by omega) ?_
  refine find_loop (A := fun k => ∀ v, Mk v (snK ws k) → at_M_areItems_4 E L h _ (nI r) v (nI k)) (Z := fun c => ((if findF (badV nB nT ws) n 0 = 0 then (1 : Int32) else 0) = (if c = 0 then 1 else 0))) (p := badV nB nT ws) (N := n) (fun z v mv => ?_) (fun k hk c z v mv => ?_) (fun k hk c ih v mv => ?_) n 0 (by omega) rfl 0 (mk_cong mk_0 (fun i _ => rfl))
  · refine B_M_areItems_4 ⟨in94 hr, ?_⟩
    rw [nIc (by omega), hm, z, if_pos rfl]
    exact brT (nI_le (Nat.le_refl _) (by omega)) ⟨rfl, rfl⟩
  · refine B_M_areItems_4 ⟨in94 hr, ?_⟩
    rw [show (40 : Int32) = nI 40 from rfl, nI_mul, nI_add, nIc (by omega), nIc (by omega), hm, z, if_neg (Nat.succ_ne_zero k), hw k hk]
    refine brF (nI_ge hk (by omega)) ⟨in95 (by omega), ?_⟩
    by_cases q : ∃ i, isIt nB nT i ∧ ws k = lN i
    · obtain ⟨i, hi, e⟩ := q
      have i24 : i < 24 := by rcases hi with q | q <;> omega
      unfold badV at c
      rw [itW_yes h8 h16 hi e, e, aN_lN (by omega)] at c
      rw [e]
      refine (m_isItem_yes hE (by omega) M hi).use (brF (by decide) ?_)
      rw [lN_i, mk_test mv i24, if_pos (by simpa using c)]
      exact brT' rfl ⟨rfl, rfl⟩
    · exact (m_isItem_no hE (by omega) M (fun i hi e => q ⟨i, hi, e⟩)).use (brT rfl ⟨rfl, rfl⟩)
  · obtain ⟨i, hi, i24, e, ea, es⟩ := badV_no h8 h16 c
    have nm := snK_mk mv i24 e
    refine B_M_areItems_4 ⟨in94 hr, ?_⟩
    rw [show (40 : Int32) = nI 40 from rfl, nI_mul, nI_add, nIc (by omega), nIc (by omega), hm, hw k hk]
    refine brF (nI_ge hk (by omega)) ⟨in95 (by omega), ?_⟩
    rw [e] at nm ⊢
    refine (m_isItem_yes hE (by omega) M hi).use (brF (by decide) ?_)
    have t : ((v >>> ((lN i).toInt32 &&& 31)) &&& 1) = 0 := by rw [lN_i, mk_test mv i24, if_neg (by rw [es]; decide)]
    rw [t, nI_1]
    exact brF' (by decide) (ih _ nm)
def vSm (pk lv : Nat → Nat) (ws : Nat → Int64) (k : Nat) : Nat := sE (fun t => lft pk lv (snK ws t) 9 (aN (ws t) + 1)) k
theorem vSm_le (pk lv : Nat → Nat) (ws : Nat → Int64) (k : Nat) : vSm pk lv ws k ≤ k * 216 := sE_le (fun t _ => by have := lft_le pk lv (snK ws t) 9 (aN (ws t) + 1); omega)
theorem vo_lft (hE : EOk E) (hL : 3 ≤ L) (Y : LyV h 3 pk lv) {i : Nat} (hi : i < 24) {v : Int32} {P : Nat → Bool} (mv : Mk v P) : RdI E L m_Layout_liftings 3 [.int (nI i), .int v] h (nI (lft pk lv P 9 (i + 1))) := by
  have l1 := ly_liftings hE hL Y (c := i + 1) (by omega) v
  rw [bx_S] at l1
  rw [lft_cong (g' := P) (fun i hi => (Y.2.1 i hi).2) (fun j hj => ?_) 9 (i + 1) (by omega)] at l1
  · exact l1
  · have t := mk_test mv hj
    by_cases q : P j = true
    · rw [if_pos q] at t; rw [q]; exact bO_t (by rw [t]; decide)
    · rw [if_neg q] at t; rw [show P j = false by simpa using q]; exact bO_f t
theorem vo_liftings (hE : EOk E) (hL : 5 ≤ L) (Y : LyV h 3 pk lv) (h8 : nB ≤ 8) (h16 : nT ≤ 16) {row n : Nat} (hr : cls row = 7) (hm : h.1 row 2 = nI n) (hn : n ≤ 40) (hb : ∀ k, k < n → badV nB nT (h.2.2 (row + 1)) k = false) : RdI E L m_Voyage_liftingsAsTold 69 [.ref row] h (nI (vSm pk lv (h.2.2 (row + 1)) n)) := by
  have m1 : RdI E (L - 1) m_Row_many row [] h (nI n) := by rw [← hm]; exact row_many hE (by omega) hr
  refine B_Voyage_liftingsAsTold hE (by omega) ?_
  refine upto (P := fun k => ∀ v, Mk v (snK (h.2.2 (row + 1)) k) → at_Voyage_liftingsAsTold_7 E L h _ row (nI (vSm pk lv (h.2.2 (row + 1)) k)) v (nI k)) (n := n) (fun v mv => ?_) (fun k hk ih v mv => ?_) 0 (by omega) 0 (mk_cong mk_0 (fun i _ => rfl))
  · exact B_Voyage_liftingsAsTold_7 (m1.use (brT (nI_le (Nat.le_refl _) (by omega)) ⟨rfl, rfl⟩))
  · obtain ⟨i, hi, i24, e, ea, es⟩ := badV_no h8 h16 (hb k hk)
    have nm := snK_mk mv i24 e
    refine B_Voyage_liftingsAsTold_7 (m1.use (brF (nI_ge hk (by omega)) ((row_get hE (by omega) hr hm hn hk).use ?_)))
    have l1 := vo_lft hE (L := L - 1) (by omega) Y i24 mv
    have ih1 := ih _ nm
    unfold vSm at ih1 ⊢
    rw [sE_s _ k, ea] at ih1
    rw [e, lN_i] at *
    refine l1.use ?_
    rw [nI_add, nI_1]
    exact ih1
theorem m_lifts (hE : EOk E) (hL : 5 ≤ L) {g : Nat → Bool} (M : MdV h nB nT tv (pkG pk g) sn ck) (hA : acy pk) (hO : OrdV pk lv sn ck) (hp : ∀ i, i < 24 → pk i ≤ 8) {i : Nat} (hi : i < 24) : WrI E L m_M_lifts 74 [.int (nI i)] h (nI (lft pk lv g 9 (i + 1))) (sA h 75 (171 + i) 0) := by
  have o1 := m_overMany hE (L := L - 1) (by omega) M (acy_G hA) hi
  unfold ovM at o1
  rw [over_eqG hO hp 9 (i + 1) (by omega) (hA _ (by omega))] at o1
  refine B_M_lifts hE (by omega) (o1.use ?_)
  rw [show (171 : Int32) = nI 171 from rfl, nI_add, nIc (by omega)]
  exact ⟨in75 (by omega), rfl, rfl⟩
end Voy
