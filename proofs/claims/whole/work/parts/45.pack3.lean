def pkW (nB nT : Nat) (ws : Nat → Int64) (pk : Nat → Nat) (k i : Nat) : Nat := if itB nB nT i = true ∧ plc nB i < k then cdB nB (ws (plc nB i)) else pk i
section Pack3
variable {E : EnvX} {L : Nat} {h : Hp} {K : Nat} {nB nT : Nat} {tv : Nat → Nat → Nat} {pk lv sn : Nat → Nat} {ck : Nat}
theorem m_firstNoBox (hE : EOk E) (hL : 4 ≤ L) (M : MdV h nB nT tv pk sn ck) {q : Nat} {ws : Nat → Int64} (hq : q < 4) (hw : ∀ k, k < nB + nT → h.2.2 95 (40 * q + k) = ws k) : RdI E L m_M_firstNoBox 74 [.int (nI q)] h (bx (stK nB ws (nB + nT))) := by
  have h8 := M.1.1
  have h16 := M.1.2.1
  refine B_M_firstNoBox hE (by omega) ?_
  have main : ∀ m k, m + k = nB + nT → stK nB ws k = 0 → at_M_firstNoBox_2 E L h (fun y h' => y = bx (stK nB ws (nB + nT)) ∧ h' = h) (nI q) (nI k) := by
    intro m
    induction m with
    | zero =>
      intro k hk hz
      have ek : k = nB + nT := by omega
      subst ek
      exact B_M_firstNoBox_2 ((m_itemMany hE (by omega) M).use (brT (nI_le (Nat.le_refl _) (by omega)) ⟨by rw [hz]; rfl, rfl⟩))
    | succ m ih =>
      intro k hk hz
      have hk2 : k < nB + nT := by omega
      refine B_M_firstNoBox_2 ((m_itemMany hE (by omega) M).use (brF (nI_ge hk2 (by omega)) ?_))
      rw [show (40 : Int32) = nI 40 from rfl, nI_mul, nI_add, nIc (by omega), hw k hk2, lgc_eq, nI_1]
      refine ⟨in95 (by omega), fun d => ?_, fun d => ?_⟩
      · refine ih (k + 1) (by omega) ?_
        rw [stK, if_neg (fun z => z hz), if_neg (by unfold badW; rw [d]; simp)]
      · by_cases c : cdB nB (ws k) = 0
        · have at1 : RdI E (L - 1) m_M_itemAt 74 [.int (nI k)] h (nI (itA nB k)) := m_itemAt hE (by omega) M (by omega)
          refine (m_isBox_no hE (by omega) M (cdB_no h8 c)).use (brT' rfl (at1.use ⟨?_, rfl⟩))
          have e1 : stK nB ws (k + 1) = itA nB k + 1 := by rw [stK, if_neg (fun z => z hz), if_pos (by unfold badW; rw [decide_eq_true c, decide_eq_true d]; rfl)]
          have e2 := stK_stay (nB := nB) (ws := ws) (k := k + 1) (by rw [e1]; omega) m
          rw [show k + 1 + m = nB + nT by omega, e1] at e2
          rw [e2, bx_S]
        · obtain ⟨b, hb2, ew, ec⟩ := cdB_yes h8 c
          refine (by rw [ew]; exact m_isBox_yes hE (by omega) M hb2 : RdI E (L - 1) m_M_isBox 74 [.long (ws k)] h 1).use (brF' (by decide) (ih (k + 1) (by omega) ?_))
          rw [stK, if_neg (fun z => z hz), if_neg (by unfold badW; rw [decide_eq_false c]; simp)]
  exact main (nB + nT) 0 (by omega) rfl
theorem stK_0 {ws : Nat → Int64} {n : Nat} (h : stK nB ws n = 0) : ∀ k, k < n → badW nB (ws k) = false := by
  intro k hk
  refine Classical.byContradiction fun z => ?_
  have e0 : stK nB ws k = 0 := Classical.byContradiction fun w => by
    have := stK_stay w (n - k)
    rw [show k + (n - k) = n by omega, h] at this
    exact w this.symm
  have e1 : stK nB ws (k + 1) ≠ 0 := by rw [stK, if_neg (fun z => z e0), if_pos (by simpa using z)]; exact Nat.succ_ne_zero _
  have := stK_stay e1 (n - (k + 1))
  rw [show k + 1 + (n - (k + 1)) = n by omega, h] at this
  exact e1 this.symm
theorem good_w {w : Int64} (h8 : nB ≤ 8) (h : badW nB w = false) : w.toInt32 + 1 = nI (cdB nB w) := by
  by_cases c : cdB nB w = 0
  · have d : w = -1 := Classical.byContradiction fun z => by
      unfold badW at h; rw [decide_eq_true c, decide_eq_true z] at h; cases h
    rw [c, d]; decide
  · obtain ⟨b, hb, ew, ec⟩ := cdB_yes h8 c
    rw [ec, ew, lN_i, nI_1]
theorem m_lays (hE : EOk E) (hL : 4 ≤ L) (M : MdV h nB nT tv pk sn ck) {q : Nat} {ws : Nat → Int64} (hq : q < 4) (hw : ∀ k, k < nB + nT → h.2.2 95 (40 * q + k) = ws k) (hz : stK nB ws (nB + nT) = 0) : ConV E L m_M_lays 74 [.int (nI q)] h (fun h' => EqO (fun q => q = 75 ∨ q = 79) h h' ∧ (∀ j, j < 49 → h'.2.1 79 j = h.2.1 75 (171 + j)) ∧ (∀ k, 220 ≤ k → h'.2.1 75 k = h.2.1 75 k) ∧ MdV h' nB nT tv (pkU nB nT ws (nB + nT)) sn ck) := by
  have h8 := M.1.1
  have h16 := M.1.2.1
  have good := stK_0 hz
  refine B_M_lays hE (by omega) ((m_keeps hE (by omega)).mono (fun h1 q1 => ?_))
  obtain ⟨e1, a1⟩ := q1
  have main : ∀ m k, m + k = nB + nT → ∀ h2, EqO (fun q => q = 75) h1 h2 → (∀ k, 220 ≤ k → h2.2.1 75 k = h1.2.1 75 k) → MdV h2 nB nT tv (pkW nB nT ws pk k) sn ck → at_M_lays_6 E L h2 (fun h' => EqO (fun q => q = 75 ∨ q = 79) h h' ∧ (∀ j, j < 49 → h'.2.1 79 j = h.2.1 75 (171 + j)) ∧ (∀ k, 220 ≤ k → h'.2.1 75 k = h.2.1 75 k) ∧ MdV h' nB nT tv (pkU nB nT ws (nB + nT)) sn ck) (nI q) (nI k) := by
    intro m
    induction m with
    | zero =>
      intro k hk h2 e2 t2 M2
      have ek : k = nB + nT := by omega
      subst ek
      refine B_M_lays_6 ((m_itemMany hE (by omega) M2).use (brT (nI_le (Nat.le_refl _) (by omega)) ⟨(e1.wk (fun q z => Or.inr z)).trans (e2.wk (fun q z => Or.inl z)), fun j hj => by rw [(e2 79 (by omega)).2.1]; exact a1 j hj, fun k hk => by rw [t2 k hk, (e1 75 (by omega)).2.1], ?_⟩))
      obtain ⟨m0, m1, m2, m3, m4, m5⟩ := M2
      refine ⟨m0, m1, m2, fun i hi => ?_, m4, fun i hi z => ?_⟩
      · have := m3 i hi
        have e : pkW nB nT ws pk (nB + nT) i = pkU nB nT ws (nB + nT) i := by
          unfold pkU pkW
          by_cases c : itB nB nT i = true ∧ plc nB i < nB + nT
          · rw [if_pos c, if_pos c]
          · rw [if_neg c, if_neg c]
            refine M.2.2.2.2.2 i hi (fun d => c ⟨itB_iff.mpr d, (itA_plc h8 d).2⟩)
        rw [e] at this; exact this
      · unfold pkU; rw [if_neg (fun w => z (itB_iff.mp w.1))]
    | succ m ih =>
      intro k hk h2 e2 t2 M2
      have hk2 : k < nB + nT := by omega
      have hit := itA_lt h8 h16 hk2
      have hII := itA_it h8 h16 hk2
      have at1 : RdI E (L - 1) m_M_itemAt 74 [.int (nI k)] h2 (nI (itA nB k)) := m_itemAt hE (by omega) M2 (by omega)
      refine B_M_lays_6 ((m_itemMany hE (by omega) M2).use (brF (nI_ge hk2 (by omega)) (at1.use ?_)))
      rw [show (40 : Int32) = nI 40 from rfl, nI_mul, nI_add, nIc (by omega), show (171 : Int32) = nI 171 from rfl, nI_add, nIc (by omega), show h2.2.2 95 (40 * q + k) = ws k by rw [(e2 95 (by omega)).2.2, (e1 95 (by omega)).2.2]; exact hw k hk2, good_w h8 (good k hk2), nI_1]
      refine ⟨in95 (by omega), in75 (by omega), ih (k + 1) (by omega) _ (e2.trans (EqO.sA (F := fun q => q = 75) rfl)) (fun j hj => by rw [sA_A, if_pos rfl, if_neg (by omega)]; exact t2 j hj) ?_⟩
      have cl := cdB_le (nB := nB) (w := ws k) h8
      obtain ⟨m0, ⟨f0, f1, f2, f3⟩, m2, m3, m4, m5⟩ := M2
      have rd : ∀ j, (sA h2 75 (171 + itA nB k) (nI (cdB nB (ws k)))).2.1 75 j = if j = 171 + itA nB k then nI (cdB nB (ws k)) else h2.2.1 75 j := fun j => by rw [sA_A, if_pos rfl]
      refine ⟨m0, ⟨by rw [rd, if_neg (by omega)]; exact f0, by rw [rd, if_neg (by omega)]; exact f1, by rw [rd, if_neg (by omega)]; exact f2, by rw [rd, if_neg (by omega)]; exact f3⟩, fun i j hi hj => by rw [rd, if_neg (by omega)]; exact m2 i j hi hj, fun i hi => ?_, fun i hi => by rw [rd, if_neg (by omega)]; exact m4 i hi, fun i hi z => ?_⟩
      · rw [rd]
        by_cases d : i = itA nB k
        · subst d
          have e : pkW nB nT ws pk (k + 1) (itA nB k) = cdB nB (ws k) := by unfold pkW; rw [plc_itA h8 hk2, if_pos ⟨itB_iff.mpr hII, by omega⟩]
          rw [if_pos (by omega), e]
          exact ⟨rfl, cl⟩
        · rw [if_neg (by omega)]
          have := m3 i hi
          have e : pkW nB nT ws pk (k + 1) i = pkW nB nT ws pk k i := by
            unfold pkW
            by_cases c : itB nB nT i = true ∧ plc nB i < k
            · rw [if_pos c, if_pos ⟨c.1, by omega⟩]
            · rw [if_neg c, if_neg (fun z => c ⟨z.1, ?_⟩)]
              rcases Nat.lt_or_ge (plc nB i) k with q | q
              · exact q
              · have := (itA_plc h8 (itB_iff.mp z.1)).1
                rw [show plc nB i = k by omega] at this
                exact absurd this.symm d
          rw [e]; exact this
      · unfold pkW; rw [if_neg (fun w => z (itB_iff.mp w.1))]; exact M.2.2.2.2.2 i hi z
  refine main (nB + nT) 0 (by omega) h1 EqO.rfl' (fun _ _ => rfl) ?_
  have e0 : pkW nB nT ws pk 0 = pk := funext (fun i => if_neg (fun z => Nat.not_lt_zero _ z.2))
  rw [e0]
  exact MsV_eq M (e1 75 (by omega)).2.1
theorem m_isRing (hE : EOk E) (hL : 2 ≤ L) (M : MdV h nB nT tv pk sn ck) {b : Nat} (hb : b < 24) : RdI E L m_M_isRing 74 [.int (nI b)] h (if wi pk (b + 1) 8 (b + 1) = true then 1 else 0) := by
  refine B_M_isRing hE (by omega) ((m_around hE (by omega) M hb).use ?_)
  have main : ∀ n k j, n + k = 8 → j < 24 → at_M_isRing_8 E L h (fun y h' => y = (if wi pk (b + 1) n (j + 1) = true then 1 else 0) ∧ h' = h) (nI b) (bx (pk j)) (nI k) := by
    intro n
    induction n with
    | zero =>
      intro k j hk hj
      rw [show k = 8 by omega]
      exact B_M_isRing_8 (brT (nEnd 8) ⟨rfl, rfl⟩)
    | succ n ih =>
      intro k j hk hj
      have hp := M.pk8 hj
      refine B_M_isRing_8 (brF (nG 8 (by omega)) ?_)
      rw [bx_m1 (by omega), nI_1]
      refine ⟨fun d => ?_, fun d => ?_⟩
      · rw [wi_fl (by omega) d]; exact ⟨rfl, rfl⟩
      · obtain ⟨m, hm⟩ : ∃ m, pk j = m + 1 := ⟨pk j - 1, by omega⟩
        rw [hm, bx_S, nIe (by omega) (by omega)]
        have e : wi pk (b + 1) (n + 1) (j + 1) = if m = b then true else wi pk (b + 1) n (m + 1) := by
          simp only [wi, if_neg (Nat.succ_ne_zero j), nx_S, hm, Nat.add_right_cancel_iff]
        rw [e]
        refine ⟨fun d2 => (m_around hE (by omega) M (by omega)).use ?_, fun d2 => ?_⟩
        · rw [if_neg d2]; exact ih (k + 1) m (by omega) (by omega)
        · rw [if_pos d2]; exact ⟨rfl, rfl⟩
  exact main 8 0 b (by omega) hb
/-- no box within itself: no ring at all -/
theorem acy_of {nB : Nat} (hp : ∀ i, i < 24 → pk i ≤ nB) (h8 : nB ≤ 8) (hn : ∀ b, b < nB → wi pk (b + 1) 8 (b + 1) = false) : acy pk := by
  have hp8 : ∀ i, i < 24 → pk i ≤ 8 := fun i hi => Nat.le_trans (hp i hi) h8
  intro c hc
  refine Classical.byContradiction fun h9 => ?_
  have hne : ∀ k, k ≤ 9 → itn pk k c ≠ 0 := fun k hk e => h9 (itn_z e hk)
  have hle : ∀ k, itn pk (k + 1) c ≤ nB := fun k => by
    rw [itn_end]
    unfold nx
    split
    · omega
    · exact hp _ (by have := itn_l24 hp8 hc k; omega)
  obtain ⟨i, j, h1, h2, h3⟩ := pig 8 (fun k => itn pk (k + 1) c - 1) (fun k hk => by
    have a1 := hne (k + 1) (by omega)
    have a2 := hle k
    show itn pk (k + 1) c - 1 < 8
    omega)
  have a1 := hne (i + 1) (by omega)
  have a2 := hne (j + 1) (by omega)
  have a3 := hle i
  have e : itn pk (j + 1) c = itn pk (i + 1) c := by
    have : itn pk (i + 1) c - 1 = itn pk (j + 1) c - 1 := h3
    omega
  have hcy : itn pk ((j - i - 1) + 1) (itn pk (i + 1) c) = itn pk (i + 1) c := by
    rw [← itn_add, show i + 1 + (j - i - 1 + 1) = j + 1 by omega]; exact e
  have w := hn (itn pk (i + 1) c - 1) (by omega)
  rw [show itn pk (i + 1) c - 1 + 1 = itn pk (i + 1) c by omega] at w
  exact wi_f a1 w (j - i - 1) (by omega) hcy
end Pack3
