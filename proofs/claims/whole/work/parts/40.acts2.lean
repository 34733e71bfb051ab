theorem runA_ok {nB nT : Nat} {tv : Nat → Nat → Nat} (h8 : nB ≤ 8) (h16 : nT ≤ 16) (ws : Nat → Int64) : ∀ (m k : Nat) (σ : Sg), SgOk σ → SgOk (runA nB nT tv ws m k σ).2.2 ∧ (runA nB nT tv ws m k σ).2.2.2.2.2 ≤ σ.2.2.2 + m ∧ (runA nB nT tv ws m k σ).1 ≤ k + m ∧ ((runA nB nT tv ws m k σ).2.1 = 0 → (runA nB nT tv ws m k σ).1 = k + m) ∧ (¬ (runA nB nT tv ws m k σ).2.1 = 0 → (runA nB nT tv ws m k σ).1 < k + m)
  | 0, k, σ, ok => ⟨ok, Nat.le_refl _, Nat.le_refl _, fun _ => rfl, fun z => absurd rfl z⟩
  | m + 1, k, σ, ok => by
    unfold runA
    by_cases c : rsA nB nT tv σ (ws k) = 0
    · rw [if_pos c]
      obtain ⟨o1, o2⟩ := stA_ok (tv := tv) h8 h16 ok (ws k)
      obtain ⟨r1, r2, r3, r4, r5⟩ := runA_ok h8 h16 ws m (k + 1) (stA nB nT tv σ (ws k)) o1
      exact ⟨r1, by omega, by omega, fun z => by have := r4 z; omega, fun z => by have := r5 z; omega⟩
    · rw [if_neg c]
      exact ⟨ok, Nat.le_add_right _ _, Nat.le_add_right _ _, fun z => absurd z c, fun _ => Nat.lt_add_of_pos_right (Nat.succ_pos m)⟩
section Acts2
variable {E : EnvX} {L : Nat} {h : Hp} {K : Nat} {nB nT : Nat} {tv : Nat → Nat → Nat}
theorem x_doActs (hE : EOk E) (hL : 8 ≤ L) {r row n : Nat} {σ : Sg} (hr : r = 3 ∨ r = 6) (hrow : cls row = 7) (hb : 14 ≤ row) (hm : h.1 row 2 = nI n) (hn : n ≤ 40) (Y : LyV h r σ.1 σ.2.1) (S : StV h 1 nB nT tv) : ConI E L m_Layout_doActs r [.ref row] h (fun y h' => y = nI (runA nB nT tv (h.2.2 (row + 1)) n 0 σ).1 ∧ EqO (fun q => r ≤ q ∧ q ≤ r + 2) h h' ∧ h'.1 r 3 = (runA nB nT tv (h.2.2 (row + 1)) n 0 σ).2.1 ∧ LyV h' r (runA nB nT tv (h.2.2 (row + 1)) n 0 σ).2.2.1 (runA nB nT tv (h.2.2 (row + 1)) n 0 σ).2.2.2.1) := by
  have hrf : rf r 0 = 1 := by rcases hr with rfl | rfl <;> decide +kernel
  have hr2 : r + 2 < 14 ∧ 2 < r := by omega
  refine B_Layout_doActs hE (by omega) Y.1 ?_
  have main : ∀ m k, m + k = n → ∀ (σ : Sg) (h1 : Hp), EqO (fun q => r ≤ q ∧ q ≤ r + 2) h h1 → h1.1 r 3 = 0 → LyV h1 r σ.1 σ.2.1 → at_Layout_doActs_7 E L r h1 (fun y h' => y = nI (runA nB nT tv (h.2.2 (row + 1)) m k σ).1 ∧ EqO (fun q => r ≤ q ∧ q ≤ r + 2) h h' ∧ h'.1 r 3 = (runA nB nT tv (h.2.2 (row + 1)) m k σ).2.1 ∧ LyV h' r (runA nB nT tv (h.2.2 (row + 1)) m k σ).2.2.1 (runA nB nT tv (h.2.2 (row + 1)) m k σ).2.2.2.1) row (nI k) := by
    intro m
    induction m with
    | zero =>
      intro k hk σ h1 e1 z1 Y1
      have m1 := row_many (h := h1) hE (L := L - 1) (by omega) hrow
      rw [show h1.1 row 2 = nI n by rw [(e1 row (by omega)).1]; exact hm] at m1
      exact B_Layout_doActs_7 (m1.use (brT (nI_le (by omega) (by omega)) (m1.use ⟨by rw [show k = n by omega]; rfl, e1, z1, Y1⟩)))
    | succ m ih =>
      intro k hk σ h1 e1 z1 Y1
      have hm1 : h1.1 row 2 = nI n := by rw [(e1 row (by omega)).1]; exact hm
      have m1 := row_many (h := h1) hE (L := L - 1) (by omega) hrow
      rw [hm1] at m1
      have g1 := row_get (h := h1) hE (L := L - 1) (by omega) hrow hm1 hn (k := k) (by omega)
      rw [(e1 (row + 1) (by omega)).2.2] at g1
      have S1 : StV h1 (rf r 0) nB nT tv := by rw [hrf]; exact S.keep e1 (by omega) (by omega)
      refine B_Layout_doActs_7 (m1.use (brF (nI_ge (by omega) (by omega)) (g1.use ((x_doAct hE (by omega) Y1 S1 (h.2.2 (row + 1) k)).mono (fun y h2 q => ?_)))))
      obtain ⟨rfl, e2, Y2⟩ := q
      have e3 : EqO (fun q => r ≤ q ∧ q ≤ r + 2) h (sI h2 r 3 (rsA nB nT tv σ (h.2.2 (row + 1) k))) := (e1.trans (e2.wk (fun q z => by omega))).trans (EqO.sI ⟨Nat.le_refl _, by omega⟩)
      have f3 : (sI h2 r 3 (rsA nB nT tv σ (h.2.2 (row + 1) k))).1 r 3 = rsA nB nT tv σ (h.2.2 (row + 1) k) := by rw [sI_1, if_pos rfl, if_pos rfl]
      rw [f3, nI_1]
      refine ⟨fun c => ?_, fun c => ?_⟩
      · have er : runA nB nT tv (h.2.2 (row + 1)) (m + 1) k σ = runA nB nT tv (h.2.2 (row + 1)) m (k + 1) (stA nB nT tv σ (h.2.2 (row + 1) k)) := by rw [runA, if_pos c]
        rw [er]
        exact ih (k + 1) (by omega) _ _ e3 (f3.trans c) (LyV_eq Y2 rfl rfl)
      · have er : runA nB nT tv (h.2.2 (row + 1)) (m + 1) k σ = (k, rsA nB nT tv σ (h.2.2 (row + 1) k), σ) := by rw [runA, if_neg c]
        have es : stA nB nT tv σ (h.2.2 (row + 1) k) = σ := by unfold stA; rw [if_neg c]
        rw [es] at Y2
        rw [er]
        exact ⟨rfl, e3, rfl, LyV_eq Y2 rfl rfl⟩
  refine main n 0 (by omega) σ _ (EqO.sI ⟨Nat.le_refl _, by omega⟩) (by rw [sI_1, if_pos rfl, if_pos rfl]) (LyV_eq Y rfl rfl)
theorem FrM.f16 {v : Int32} : FrM h (sI h 74 16 v) := ⟨EqO.sI (Or.inl rfl), (show EqS h (sI h 74 16 v) from EqS.sI).t⟩
theorem m_actsAll (hE : EOk E) (hL : 10 ≤ L) {q n : Nat} {σ : Sg} {ws : Nat → Int64} (hq : q < 4) (hm : h.2.1 94 q = nI n) (hn : n ≤ 40) (hw : ∀ k, k < n → h.2.2 95 (40 * q + k) = ws k) (ok : SgOk σ) (hck : σ.2.2.2 + 50 < 1073741824) (M : MdV h nB nT tv σ.1 σ.2.2.1 σ.2.2.2) : ConI E L m_M_actsAll 74 [.int (nI q)] h (fun y h' => y = nI (runA nB nT tv ws n 0 σ).1 ∧ FrM h h' ∧ h'.1 74 16 = (runA nB nT tv ws n 0 σ).2.1 ∧ MdV h' nB nT tv (runA nB nT tv ws n 0 σ).2.2.1 (runA nB nT tv ws n 0 σ).2.2.2.2.1 (runA nB nT tv ws n 0 σ).2.2.2.2.2) := by
  have h8 := M.1.1
  have h16 := M.1.2.1
  refine B_M_actsAll hE (by omega) ?_
  have main : ∀ m k, m + k = n → ∀ (σ : Sg) (h1 : Hp), SgOk σ → σ.2.2.2 + m < 1073741824 → FrM h h1 → MdV h1 nB nT tv σ.1 σ.2.2.1 σ.2.2.2 → at_M_actsAll_2 E L h1 (fun y h' => y = nI (runA nB nT tv ws m k σ).1 ∧ FrM h h' ∧ h'.1 74 16 = (runA nB nT tv ws m k σ).2.1 ∧ MdV h' nB nT tv (runA nB nT tv ws m k σ).2.2.1 (runA nB nT tv ws m k σ).2.2.2.2.1 (runA nB nT tv ws m k σ).2.2.2.2.2) (nI q) (nI k) := by
    intro m
    induction m with
    | zero =>
      intro k hk σ h1 ok hc f M1
      refine B_M_actsAll_2 ⟨in94 hq, ?_⟩
      rw [nIc (by omega), show h1.2.1 94 q = nI n by rw [(f.1 94 (by omega)).2.1]; exact hm]
      refine brT (nI_le (by omega) (by omega)) ⟨in94 hq, ?_, f.trans FrM.f16, by rw [sI_1, if_pos rfl, if_pos rfl]; rfl, M1⟩
      rw [show k = n by omega]
      show h1.2.1 94 q = _
      rw [(f.1 94 (by omega)).2.1]; exact hm
    | succ m ih =>
      intro k hk σ h1 ok hc f M1
      obtain ⟨o1, o2⟩ := stA_ok (tv := tv) h8 h16 ok (ws k)
      refine B_M_actsAll_2 ⟨in94 hq, ?_⟩
      rw [nIc (by omega), show h1.2.1 94 q = nI n by rw [(f.1 94 (by omega)).2.1]; exact hm, show (40 : Int32) = nI 40 from rfl, nI_mul, nI_add, nIc (by omega), show h1.2.2 95 (40 * q + k) = ws k by rw [(f.1 95 (by omega)).2.2]; exact hw k (by omega)]
      refine brF (nI_ge (by omega) (by omega)) ⟨in95 (by omega), (m_acts hE (by omega) ok (by omega) M1 (ws k)).mono (fun y h2 q => ?_)⟩
      obtain ⟨rfl, f2, -, M2⟩ := q
      have f3 : (sI h2 74 16 (rsA nB nT tv σ (ws k))).1 74 16 = rsA nB nT tv σ (ws k) := by rw [sI_1, if_pos rfl, if_pos rfl]
      rw [f3, nI_1]
      refine ⟨fun c => ?_, fun c => ?_⟩
      · have er : runA nB nT tv ws (m + 1) k σ = runA nB nT tv ws m (k + 1) (stA nB nT tv σ (ws k)) := by rw [runA, if_pos c]
        rw [er]
        exact ih (k + 1) (by omega) _ _ o1 (by omega) ((f.trans f2).trans FrM.f16) M2
      · have er : runA nB nT tv ws (m + 1) k σ = (k, rsA nB nT tv σ (ws k), σ) := by rw [runA, if_neg c]
        have es : stA nB nT tv σ (ws k) = σ := by unfold stA; rw [if_neg c]
        rw [es] at M2
        rw [er]
        exact ⟨rfl, (f.trans f2).trans FrM.f16, f3, M2⟩
  exact main n 0 (by omega) σ h ok (by omega) FrM.rfl' M
theorem inv_move2 {h1 h2 : Hp} {K' : Nat} {pk' lv' sn' : Nat → Nat} {ck' : Nat} (I : Inv h K) (S : StV h 1 nB nT tv) (hB : tvB nB nT tv) (e1 : EqO (fun q => 3 ≤ q ∧ q ≤ 8) h h1) (f : FrM h1 h2) (Y1 : LyV h1 3 pk' lv') (M2 : MdV h2 nB nT tv pk' sn' ck') (hA : acy pk') (hO : OrdV pk' lv' sn' ck') (hc : ck' ≤ K') (hk1 : K ≤ K') (hk2 : K' ≤ 100000) : Inv h2 K' := by
  have t1 : EqT h h1 := EqT.of e1 (fun p hp => (show ∀ p ∈ perF2, ¬ (3 ≤ p.1 ∧ p.1 ≤ 8) by decide) p hp) (fun p hp => (show ∀ p ∈ perA2, ¬ (3 ≤ p ∧ p ≤ 8) by decide) p hp) (by omega)
  refine I.move (t1.trans f.2) ⟨nB, nT, tv, pk', lv', sn', ck', hc, ?_, Y1.keep f.1 (by omega) (by omega), M2, hA, hO, hB⟩ (PickZ_eq I.2.2.2.2.2.2 (fun a h1 h2 => ?_)) hk1 hk2
  · exact (S.keep e1 (by omega) (by omega)).keep f.1 (by omega) (by omega)
  · rw [(f.1 a (by omega)).2.1, (e1 a (by omega)).2.1]
theorem eq_perform (hE : EOk E) (hL : 20 ≤ L) (I : Inv h K) (hK : K + 60 ≤ 100000) (u : Int32) : Same E L m_X_perform m_M_perform [.int u] h K := by
  obtain ⟨nB, nT, tv, pk, lv, sn, ck, hck, C⟩ := I.2.1
  have h8 := C.1.2.2.2.1
  have h16 := C.1.2.2.2.2.1
  have fin : Inv (sI h 74 0 0) (K + 60) := I.keep (thr_eq h) I.2.2.2.2.2.2 (by omega) hK
  by_cases hu : ∃ r, r < 4 ∧ u = nI r
  · obtain ⟨r, hr, rfl⟩ := hu
    obtain ⟨s13, c13⟩ := sh13 hr
    have w1 : ∀ h1 : Hp, RdI E (L - 1) m_M_within 0 [.long (nI r).toInt64, .long 0, .long 3] (sI h1 74 0 0) 1 := fun h1 => m_w_yes (a := 0) (b := 3) hE (by omega) (by omega) (by omega) (by omega)
    have r1 := x_rowRefusal (h := h) hE (L := L - 1) (by omega) hr
    rcases I.2.2.1 r hr with ⟨q1, q2⟩ | ⟨n, s, q1, q2, q3, q4, q5, q6, q7⟩
    · rw [if_pos q1] at r1
      refine B_X_perform hE (by omega) (r1.use (brF (by decide) ?_))
      refine B_M_perform hE (by omega) ((w1 h).use (brF' (by decide) ⟨in93 hr, ?_⟩))
      rw [nIc (by omega)]
      exact brT' q2 ⟨rfl, fin⟩
    · rw [if_neg (by rw [q3]; exact nIm1 (by omega))] at r1
      have ps : ¬ (h.2.1 93 r) = -1 := by rw [q5]; exact nIm1 (by omega)
      have ok : SgOk (pk, lv, sn, ck) := ⟨C.2.2.2.1, C.2.2.2.2.1, fun i hi => C.2.2.1.pk8 hi⟩
      obtain ⟨k1, k2, k3, k4, k5⟩ := runA_ok (tv := tv) h8 h16 (h.2.2 (14 + 2 * r + 1)) n 0 (pk, lv, sn, ck) ok
      refine B_X_perform hE (by omega) (r1.use (brT rfl ⟨in13 hr, ?_⟩))
      rw [nIc (by omega), s13]
      refine (x_doActs hE (by omega) (σ := (pk, lv, sn, ck)) (Or.inl rfl) c13 (by omega) q3 q1 C.2.1 C.1).mono (fun y h1 z => ?_)
      obtain ⟨rfl, e1, -, Y1⟩ := z
      have M1 : MdV h1 nB nT tv pk sn ck := MsV_eq C.2.2.1 (e1 75 (by omega)).2.1
      refine B_M_perform hE (by omega) ((w1 h1).use (brF' (by decide) ⟨in93 hr, ?_⟩))
      rw [nIc (by omega), show (sI h1 74 0 0).2.1 93 r = h.2.1 93 r by rw [sI_A, (e1 93 (by omega)).2.1]]
      refine brF' ps ((m_actsAll (h := sI h1 74 0 0) hE (by omega) (σ := (pk, lv, sn, ck)) (ws := h.2.2 (14 + 2 * r + 1)) hr (n := n) ?_ q1 (fun k hk => ?_) ok (show ck + 50 < 1073741824 by omega) M1).mono (fun y2 h2 z2 => ?_))
      · rw [sI_A, (e1 94 (by omega)).2.1]; exact q6
      · rw [sI_A, (e1 95 (by omega)).2.2, ← q7 k hk, show 15 + 2 * r = 14 + 2 * r + 1 by omega]
      · obtain ⟨rfl, f2, -, M2⟩ := z2
        exact ⟨rfl, inv_move2 I C.1 C.2.2.2.2.2 (e1.wk (fun q z => by omega)) (FrM.thr.trans f2) Y1 M2 k1.1 k1.2.1 (by have : (pk, lv, sn, ck).2.2.2 = ck := rfl; omega) (by omega) hK⟩
  · refine B_X_perform hE (by omega) ((x_rowRefusal_no hE (by omega) hu).use (brF (by decide) ?_))
    exact B_M_perform hE (by omega) ((m_w_no (a := 0) (b := 3) hE (by omega) (by omega) (by omega) (w3 hu)).use (brT' rfl ⟨rfl, fin⟩))
end Acts2
