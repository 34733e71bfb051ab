section How4
variable {E : EnvX} {L : Nat} {h : Hp} {K : Nat} {nB nT : Nat} {tv : Nat → Nat → Nat} {pk lv sn : Nat → Nat} {ck : Nat} {post : Int32 → Hp → Prop}
theorem k89 : akd 89 = 1 ∧ 24 ≤ aln 89 ∧ aln 89 < 2147483648 := by decide +kernel
theorem in89 {k : Nat} (hk : k < 24) : inI 89 (nI k) := inI_of k89.1 (by have := k89.2.1; omega) k89.2.2
theorem rdy_non {P : Nat → Bool} (M : MdV h nB nT tv pk sn ck) : ∀ i, i < 24 → ¬ isIt nB nT i → rdyB pk P i = false := fun i hi z => Bool.eq_false_iff.mpr (fun w => (rdy_iff.mp w).1 (M.2.2.2.2.2 i hi z))
/-- not ready after all: to the next place -/
theorem m_how133n (hE : EOk E) (hL : 3 ≤ L) (M : MdV h nB nT tv pk sn ck) {v2 v3 v4 : Int32} {p i q : Nat} (hq : q < 1000) (H : at_M_how_79 E L h post v2 v3 v4 (nI (p + 1))) : at_M_how_133 E L h post v2 v3 v4 (nI p) (nI i) 0 (nI q) := by
  have h8 := M.1.1
  have h16 := M.1.2.1
  refine B_M_how_133 ((m_itemMany hE (by omega) M).use ?_)
  rw [nI_1]
  exact ⟨fun _ => brT' rfl H, fun _ => brT rfl (brT' rfl H)⟩
theorem m_how133 (hE : EOk E) (hL : 3 ≤ L) (M : MdV h nB nT tv pk sn ck) {v2 v4 : Int32} {P : Nat → Bool} (mv : Mk v4 P) {c p i : Nat} (hc : c < 24) (hi : i < 24) (h0 : pk i ≠ 0) (hq : P i = false) (HY : rdyB pk P i = true → at_M_how_79 E L (sA h 89 c (nI (100 * (pk i - 1) + i))) post v2 (nI (c + 1)) (v4 ||| ((1 : Int32) <<< (nI i &&& 31))) 0) (HN : rdyB pk P i = false → at_M_how_79 E L h post v2 (nI c) v4 (nI (p + 1))) : ∀ m q, m + q = nB + nT → (∀ j, j < q → pk (itA nB j) = i + 1 → P (itA nB j) = true) → at_M_how_133 E L h post v2 (nI c) v4 (nI p) (nI i) 1 (nI q) := by
  have h8 := M.1.1
  have h16 := M.1.2.1
  have pi8 := M.pk8 hi
  intro m
  induction m with
  | zero =>
    intro q hk a
    have r : rdyB pk P i = true := rdy_iff.mpr ⟨h0, hq, fun j hj e => by
      by_cases ij : isIt nB nT j
      · obtain ⟨e1, e2⟩ := itA_plc h8 ij
        have := a (plc nB j) (by omega)
        rw [e1] at this; exact this e
      · rw [M.2.2.2.2.2 j hj ij] at e; exact absurd e.symm (Nat.succ_ne_zero i)⟩
    have b1 := m_around hE (L := L - 1) (by omega) M hi
    rw [bx_pos (by omega)] at b1
    refine B_M_how_133 ((m_itemMany hE (by omega) M).use (brT (nI_le (by omega) (by omega)) (brF' (by decide) (b1.use ?_))))
    rw [show (100 : Int32) = nI 100 from rfl, nI_mul, nI_add, nI_1, nIc (by omega)]
    exact ⟨in89 hc, HY r⟩
  | succ m ih =>
    intro q hk a
    have hq2 : q < nB + nT := by omega
    have hit := itA_lt h8 h16 hq2
    have p8 := M.pk8 hit
    have at1 : RdI E (L - 1) m_M_itemAt 74 [.int (nI q)] h (nI (itA nB q)) := m_itemAt hE (by omega) M (by omega)
    have b1 := m_around hE (L := L - 1) (by omega) M hit
    refine B_M_how_133 ((m_itemMany hE (by omega) M).use (brF (nI_ge hq2 (by omega)) (brF (by decide) (at1.use (b1.use ?_)))))
    rw [show (bx (pk (itA nB q)) = nI i) = (bx (pk (itA nB q)) = bx (i + 1)) by rw [bx_S], bx_inj (by omega) (by omega), nI_1]
    refine ⟨fun d => ih (q + 1) (by omega) (fun j hj e => ?_), fun d => at1.use ?_⟩
    · by_cases x : j = q
      · subst x; exact absurd e d
      · exact a j (by omega) e
    · rw [mk_test mv hit]
      by_cases t : P (itA nB q) = true
      · rw [if_pos t]
        refine brT' rfl (ih (q + 1) (by omega) (fun j hj e => ?_))
        by_cases x : j = q
        · subst x; exact t
        · exact a j (by omega) e
      · rw [if_neg t]
        refine brF' (by decide) (m_how133n hE hL M (by omega) (HN (Bool.eq_false_iff.mpr (fun w => t ?_))))
        exact (rdy_iff.mp w).2.2 _ hit d
theorem m_how79 (hE : EOk E) (hL : 3 ≤ L) (M : MdV h nB nT tv pk sn ck) (hA : acy pk) (hk0 : h.1 74 17 = 0) {v2 : Int32} (H : ∀ h', EqO (fun q => q = 89) h h' → (∀ t, t < sE (fun i => if pk i = 0 then 0 else 1) 24 → h'.2.1 89 t = nI (actV pk t)) → ConV E (L - 1) m_M_isAgain 74 [] h' (fun h12 => (((h12.1 74 17) = 0 → ((¬ v2 = (-1) → ConI E (L - 1) m_M_within 0 [.long v2.toInt64, .long 0, .long (nI (sE (fun i => if pk i = 0 then 0 else 1) 24) - 1).toInt64] h12 (fun y14 h13 => ((y14 = 0 → post (-1) h13) ∧ (¬ y14 = 0 → (inI 89 v2 ∧ post (h13.2.1 89 v2.toNatClampNeg) h13))))) ∧ (v2 = (-1) → post (nI (sE (fun i => if pk i = 0 then 0 else 1) 24)) h12))) ∧ (¬ (h12.1 74 17) = 0 → post (-5) h12)))) : ∀ f c, f + c = sE (fun i => if pk i = 0 then 0 else 1) 24 → ∀ m p, m + p = nB + nT → (∀ j, j < p → rdyB pk (dnK pk c) (itA nB j) = false) → ∀ h' w, EqO (fun q => q = 89) h h' → (∀ t, t < c → h'.2.1 89 t = nI (actV pk t)) → Mk w (dnK pk c) → at_M_how_79 E L h' post v2 (nI c) w (nI p) := by
  have h8 := M.1.1
  have h16 := M.1.2.1
  have T24 : sE (fun i => if pk i = 0 then 0 else 1) 24 ≤ 24 * 1 := sE_le (fun k _ => by split <;> omega)
  intro f
  induction f with
  | zero =>
    intro c hc m
    have stop : ∀ i, rdyB pk (dnK pk c) i = true → i < 24 → False := fun i r hi => by
      obtain ⟨a, b, -⟩ := dn_cnt hA c (by omega)
      obtain ⟨r1, r2, -⟩ := rdy_iff.mp r
      have : sE (fun i => if dnK pk c i = true then 1 else 0) 24 < sE (fun i => if pk i = 0 then 0 else 1) 24 := sE_str (i := i) (fun k hk => by
        by_cases x : dnK pk c k = true
        · rw [if_pos x, if_neg (a k hk x)]; exact Nat.le_refl _
        · rw [if_neg x]; exact Nat.zero_le _) hi (by rw [if_neg (by rw [r2]; decide), if_neg r1]; exact Nat.one_pos)
      omega
    induction m with
    | zero =>
      intro p hp a h' w e k mw
      have M' : MdV h' nB nT tv pk sn ck := MsV_eq M (e 75 (by omega)).2.1
      refine B_M_how_79 ((m_itemMany hE (by omega) M').use (brT (nI_le (by omega) (by omega)) ?_))
      rw [show c = sE (fun i => if pk i = 0 then 0 else 1) 24 by omega] at k ⊢
      exact H h' e k
    | succ m ihm =>
      intro p hp a h' w e k mw
      have M' : MdV h' nB nT tv pk sn ck := MsV_eq M (e 75 (by omega)).2.1
      have hp2 : p < nB + nT := by omega
      have hit := itA_lt h8 h16 hp2
      have p8 := M.pk8 hit
      have nr : rdyB pk (dnK pk c) (itA nB p) = false := Bool.eq_false_iff.mpr (fun z => stop _ z hit)
      have nxt := ihm (p + 1) (by omega) (fun j hj => by
        by_cases x : j = p
        · subst x; exact nr
        · exact a j (by omega)) h' w e k mw
      have at1 : RdI E (L - 1) m_M_itemAt 74 [.int (nI p)] h' (nI (itA nB p)) := m_itemAt hE (by omega) M' (by omega)
      refine B_M_how_79 ((m_itemMany hE (by omega) M').use (brF (nI_ge hp2 (by omega)) ?_))
      rw [show h'.1 74 17 = 0 by rw [(e 74 (by omega)).1]; exact hk0]
      refine brT' rfl (at1.use ?_)
      rw [mk_test mw hit]
      by_cases t : dnK pk c (itA nB p) = true
      · rw [if_pos t]; exact brF' (by decide) (m_how133n hE hL M' (q := 0) (by omega) nxt)
      · rw [if_neg t]
        refine brT' rfl ((m_around hE (by omega) M' hit).use ?_)
        rw [bx_m1 (by omega)]
        refine ⟨fun d => m_how133n hE hL M' (q := 0) (by omega) nxt, fun d => ?_⟩
        exact absurd nr (by
          have := m_how133 (post := fun _ _ => True) (p := p) (v2 := v2) hE hL M' mw (c := 0) (by omega) hit d (by simpa using t)
          intro _
          exact (by
            obtain ⟨j, hj, r⟩ := rdy_some hA (P := dnK pk c) 9 (itA nB p) hit d (by simpa using t) (Nat.le_add_right _ _)
            exact stop j r hj))
  | succ f ihf =>
    intro c hc m
    induction m with
    | zero =>
      intro p hp a h' w e k mw
      exfalso
      obtain ⟨-, -, r⟩ := dn_cnt hA c (by omega)
      obtain ⟨r1, r2, r3⟩ := r (by omega)
      obtain ⟨x1, -, -⟩ := rdy_iff.mp r3
      have ii : isIt nB nT (nxR pk (dnK pk c) - 1) := Classical.byContradiction fun z => x1 (M.2.2.2.2.2 _ (by omega) z)
      obtain ⟨y1, y2⟩ := itA_plc h8 ii
      have := a (plc nB (nxR pk (dnK pk c) - 1)) (by omega)
      rw [y1, r3] at this
      cases this
    | succ m ihm =>
      intro p hp a h' w e k mw
      have M' : MdV h' nB nT tv pk sn ck := MsV_eq M (e 75 (by omega)).2.1
      have hp2 : p < nB + nT := by omega
      have hit := itA_lt h8 h16 hp2
      have p8 := M.pk8 hit
      have nxt : rdyB pk (dnK pk c) (itA nB p) = false → at_M_how_79 E L h' post v2 (nI c) w (nI (p + 1)) := fun nr => ihm (p + 1) (by omega) (fun j hj => by
        by_cases x : j = p
        · subst x; exact nr
        · exact a j (by omega)) h' w e k mw
      have at1 : RdI E (L - 1) m_M_itemAt 74 [.int (nI p)] h' (nI (itA nB p)) := m_itemAt hE (by omega) M' (by omega)
      refine B_M_how_79 ((m_itemMany hE (by omega) M').use (brF (nI_ge hp2 (by omega)) ?_))
      rw [show h'.1 74 17 = 0 by rw [(e 74 (by omega)).1]; exact hk0]
      refine brT' rfl (at1.use ?_)
      rw [mk_test mw hit]
      by_cases t : dnK pk c (itA nB p) = true
      · rw [if_pos t]
        exact brF' (by decide) (m_how133n hE hL M' (q := 0) (by omega) (nxt (Bool.eq_false_iff.mpr (fun z => by have := (rdy_iff.mp z).2.1; rw [t] at this; cases this))))
      · have t2 : dnK pk c (itA nB p) = false := by simpa using t
        rw [if_neg t]
        refine brT' rfl ((m_around hE (by omega) M' hit).use ?_)
        rw [bx_m1 (by omega)]
        refine ⟨fun d => m_how133n hE hL M' (q := 0) (by omega) (nxt (Bool.eq_false_iff.mpr (fun z => (rdy_iff.mp z).1 d))), fun d => ?_⟩
        refine m_how133 hE hL M' mw (c := c) (by omega) hit d t2 (fun r => ?_) (fun r => nxt r) (nB + nT) 0 (by omega) (fun j hj => absurd hj (Nat.not_lt_zero j))
        have en : nxR pk (dnK pk c) = itA nB p + 1 := by
          unfold nxR
          rw [find_places h8 h16 (rdy_non M), findF_first (fun k => rdyB pk (dnK pk c) (itA nB k)) (nB + nT) 0 (j := p) (Nat.zero_le _) (by omega) r (fun j _ hj => a j hj), if_neg (Nat.succ_ne_zero p), Nat.add_sub_cancel]
        refine ihf (c + 1) (by omega) (nB + nT) 0 (by omega) (fun j hj => absurd hj (Nat.not_lt_zero j)) _ _ (e.trans (EqO.sA (F := fun q => q = 89) rfl)) (fun x hx => ?_) ?_
        · rw [sA_A, if_pos rfl]
          by_cases y : x = c
          · rw [if_pos y, y]; unfold actV; rw [en, Nat.add_sub_cancel]
          · rw [if_neg y]; exact k x (by omega)
        · have := dn_mk mw (by rw [en]; exact Nat.succ_ne_zero _) (by rw [en]; omega)
          rw [en, Nat.add_sub_cancel] at this
          exact this
end How4
