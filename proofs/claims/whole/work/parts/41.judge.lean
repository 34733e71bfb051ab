section Judge
variable {E : EnvX} {L : Nat} {h : Hp} {K : Nat} {nB nT : Nat} {tv : Nat → Nat → Nat} {pk lv sn : Nat → Nat} {ck : Nat}
theorem k79 : akd 79 = 1 ∧ aln 79 = 49 := by decide +kernel
theorem in79 {k : Nat} (hk : k < 49) : inI 79 (nI k) := inI_of k79.1 (by rw [k79.2]; exact hk) (by rw [k79.2]; decide)
theorem m_keeps (hE : EOk E) (hL : 1 ≤ L) : ConV E L m_M_keeps 74 [] h (fun h' => EqO (fun q => q = 79) h h' ∧ ∀ j, j < 49 → h'.2.1 79 j = h.2.1 75 (171 + j)) := by
  refine B_M_keeps hE hL ?_
  have main : ∀ m k, m + k = 49 → ∀ h1, EqO (fun q => q = 79) h h1 → (∀ j, j < k → h1.2.1 79 j = h.2.1 75 (171 + j)) → at_M_keeps_2 E L h1 (fun h' => EqO (fun q => q = 79) h h' ∧ ∀ j, j < 49 → h'.2.1 79 j = h.2.1 75 (171 + j)) (nI k) := by
    intro m
    induction m with
    | zero =>
      intro k hk h1 e a
      rw [show k = 49 by omega] at a ⊢
      exact B_M_keeps_2 (brT (nEnd 49) ⟨e, a⟩)
    | succ m ih =>
      intro k hk h1 e a
      refine B_M_keeps_2 (brF (nG 49 (by omega)) ?_)
      rw [show (171 : Int32) = nI 171 from rfl, nI_add, nIc (by omega), nIc (by omega), nI_1]
      refine ⟨in75 (by omega), in79 (by omega), ih (k + 1) (by omega) _ (e.trans (EqO.sA rfl)) (fun j hj => ?_)⟩
      rw [sA_A, if_pos rfl]
      by_cases d : j = k
      · rw [if_pos d, d, (e 75 (by omega)).2.1]
      · rw [if_neg d]; exact a j (by omega)
  exact main 49 0 (by omega) h EqO.rfl' (fun j hj => absurd hj (Nat.not_lt_zero j))
theorem m_isAgain (hE : EOk E) (hL : 1 ≤ L) : ConV E L m_M_isAgain 74 [] h (fun h' => EqO (fun q => q = 75) h h' ∧ (∀ j, j < 49 → h'.2.1 75 (171 + j) = h.2.1 79 j) ∧ ∀ k, (k < 171 ∨ 220 ≤ k) → h'.2.1 75 k = h.2.1 75 k) := by
  refine B_M_isAgain hE hL ?_
  have main : ∀ m k, m + k = 49 → ∀ h1, EqO (fun q => q = 75) h h1 → (∀ j, j < k → h1.2.1 75 (171 + j) = h.2.1 79 j) → (∀ k, (k < 171 ∨ 220 ≤ k) → h1.2.1 75 k = h.2.1 75 k) → at_M_isAgain_2 E L h1 (fun h' => EqO (fun q => q = 75) h h' ∧ (∀ j, j < 49 → h'.2.1 75 (171 + j) = h.2.1 79 j) ∧ ∀ k, (k < 171 ∨ 220 ≤ k) → h'.2.1 75 k = h.2.1 75 k) (nI k) := by
    intro m
    induction m with
    | zero =>
      intro k hk h1 e a b
      rw [show k = 49 by omega] at a ⊢
      exact B_M_isAgain_2 (brT (nEnd 49) ⟨e, a, b⟩)
    | succ m ih =>
      intro k hk h1 e a b
      refine B_M_isAgain_2 (brF (nG 49 (by omega)) ?_)
      rw [show (171 : Int32) = nI 171 from rfl, nI_add, nIc (by omega), nIc (by omega), nI_1]
      refine ⟨in79 (by omega), in75 (by omega), ih (k + 1) (by omega) _ (e.trans (EqO.sA rfl)) (fun j hj => ?_) (fun j hj => ?_)⟩
      · rw [sA_A, if_pos rfl]
        by_cases d : j = k
        · rw [if_pos (by omega), d, (e 79 (by omega)).2.1]
        · rw [if_neg (by omega)]; exact a j (by omega)
      · rw [sA_A, if_pos rfl, if_neg (by omega)]; exact b j hj
  exact main 49 0 (by omega) h EqO.rfl' (fun j hj => absurd hj (Nat.not_lt_zero j)) (fun _ _ => rfl)
theorem MsV_back {h0 h2 h3 : Hp} {pk2 sn2 : Nat → Nat} {ck2 : Nat} (M : MdV h0 nB nT tv pk sn ck) (M2 : MdV h2 nB nT tv pk2 sn2 ck2) (a : ∀ j, j < 49 → h3.2.1 75 (171 + j) = h0.2.1 75 (171 + j)) (b : ∀ k, k < 171 → h3.2.1 75 k = h2.2.1 75 k) : MdV h3 nB nT tv pk sn ck := by
  obtain ⟨m0, ⟨e0, e1, e2, e3⟩, m1, m2, m3, m4⟩ := M
  obtain ⟨n0, ⟨f0, f1, f2, f3⟩, n1, n2, n3, n4⟩ := M2
  refine ⟨m0, ⟨by rw [b _ (by omega)]; exact f0, by rw [b _ (by omega)]; exact f1, by rw [b _ (by omega)]; exact f2, ?_⟩, fun i k hi hk => by rw [b _ (by omega)]; exact n1 i k hi hk, fun i hi => ?_, fun i hi => ?_, m4⟩
  · have := a 48 (by omega); rw [Nat.zero_add] at e3 ⊢; exact this.trans e3
  · have := a i (by omega)
    have z := m2 i hi
    rw [Nat.zero_add] at z ⊢
    rw [this]; exact z
  · have := a (24 + i) (by omega)
    have z := m3 i hi
    rw [Nat.zero_add, show 195 + i = 171 + (24 + i) by omega] at z ⊢
    rw [this]; exact z
theorem eq_judge (hE : EOk E) (hL : 20 ≤ L) (I : Inv h K) (hK : K + 60 ≤ 100000) (u v : Int32) : Same E L m_X_judge m_M_judge [.int u, .int v] h K := by
  obtain ⟨nB, nT, tv, pk, lv, sn, ck, hck, C⟩ := I.2.1
  have h8 := C.1.2.2.2.1
  have h16 := C.1.2.2.2.2.1
  have fin : Inv (sI h 74 0 0) (K + 60) := I.keep (thr_eq h) I.2.2.2.2.2.2 (by omega) hK
  by_cases hu : ∃ r, r < 4 ∧ u = nI r
  · obtain ⟨r, hr, rfl⟩ := hu
    obtain ⟨s13, c13⟩ := sh13 hr
    have w1 : ∀ h1 : Hp, RdI E (L - 1) m_M_within 0 [.long (nI r).toInt64, .long 0, .long 3] (sI h1 74 0 0) 1 := fun h1 => m_w_yes (a := 0) (b := 3) hE (by omega) (by omega) (by omega) (by omega)
    by_cases hv : ∃ k, k < 3 ∧ v = nI k
    · obtain ⟨k, hk, rfl⟩ := hv
      have w2 : ∀ h1 : Hp, RdI E (L - 1) m_M_within 0 [.long (nI k).toInt64, .long 0, .long 2] (sI h1 74 0 0) 1 := fun h1 => m_w_yes (a := 0) (b := 2) hE (by omega) (by omega) (by omega) (by omega)
      have i1 := row_isMissing (h := h) hE (L := L - 1) (by omega) c13
      have top : ∀ {post : Int32 → Hp → Prop}, (inR 13 (nI r) ∧ ConI E (L - 1) m_Row_isMissing (rfa 13 (nI r).toNatClampNeg) [] h (fun y4 h3 => ((y4 = 0 → ConV E (L - 1) m_Layout_takeFrom 6 [.ref 3] h3 (fun h5 => ConI E (L - 1) m_Layout_doActs 6 [.ref (rfa 13 (nI r).toNatClampNeg)] h5 (fun y7 h6 => ((¬ nI k = 0 → ((¬ nI k = 1 → ConI E (L - 1) m_Layout_manyPacked 6 [] h6 (fun y9 h8 => post y9 h8)) ∧ (nI k = 1 → ConI E (L - 1) m_Layout_whyStopped 6 [] h6 (fun y11 h10 => post y11 h10)))) ∧ (nI k = 0 → ConI E (L - 1) m_Row_many (rfa 13 (nI r).toNatClampNeg) [] h6 (fun y13 h12 => ((y13 ≤ y7 → post (-1) h12) ∧ (¬ y13 ≤ y7 → post y7 h12)))))))) ∧ (¬ y4 = 0 → post (-6) h3)))) → ConI E L m_X_judge 0 [.int (nI r), .int (nI k)] h post := fun H =>
        B_X_judge hE (by omega) ((x_isRow hE (by omega) hr).use (brF (by decide) (brF (nIneg (by omega)) (brT (show nI k ≤ nI 2 from nI_le (by omega) (by omega)) H))))
      rcases I.2.2.1 r hr with ⟨q1, q2⟩ | ⟨n, s, q1, q2, q3, q4, q5, q6, q7⟩
      · rw [if_pos q1] at i1
        refine top ⟨in13 hr, ?_⟩
        rw [nIc (by omega), s13]
        refine i1.use (brF (by decide) ?_)
        refine B_M_judge hE (by omega) ((w1 h).use (brF (by decide) ((w2 h).use (brF' (by decide) ⟨in93 hr, ?_⟩))))
        rw [nIc (by omega)]
        exact brT' q2 ⟨rfl, fin⟩
      · rw [if_neg (by rw [q3]; exact nIm1 (by omega))] at i1
        have ps : ¬ (h.2.1 93 r) = -1 := by rw [q5]; exact nIm1 (by omega)
        have ok : SgOk (pk, lv, sn, ck) := ⟨C.2.2.2.1, C.2.2.2.2.1, fun i hi => C.2.2.1.pk8 hi⟩
        obtain ⟨k1, k2, k3, k4, k5⟩ := runA_ok (tv := tv) h8 h16 (h.2.2 (14 + 2 * r + 1)) n 0 (pk, lv, sn, ck) ok
        have c6 : cls 6 = 2 := by decide +kernel
        refine top ⟨in13 hr, ?_⟩
        rw [nIc (by omega), s13]
        refine i1.use (brT rfl ((ly_takeFrom hE (by omega) c6 C.2.1 (by omega)).mono (fun h1 z => ?_)))
        obtain ⟨e1, Y1⟩ := z
        have x1 := x_doActs (h := h1) hE (L := L - 1) (by omega) (σ := (pk, lv, sn, ck)) (row := 14 + 2 * r) (n := n) (Or.inr rfl) c13 (by omega) (by rw [(e1 (14 + 2 * r) (by omega)).1]; exact q3) q1 Y1 (C.1.keep e1 (by omega) (by omega))
        rw [(e1 (14 + 2 * r + 1) (by omega)).2.2] at x1
        generalize hR : runA nB nT tv (h.2.2 (14 + 2 * r + 1)) n 0 (pk, lv, sn, ck) = R at k1 k2 k3 k4 k5 x1
        refine x1.mono (fun y h2 z => ?_)
        obtain ⟨rfl, e2, f2, Y2⟩ := z
        have eX : EqO (fun q => 6 ≤ q ∧ q ≤ 8) h h2 := (e1.wk (fun q z => by omega)).trans (e2.wk (fun q z => by omega))
        -- the reference's side, for every reading
        have mm : ∀ ans : Int32, (k = 0 → ans = if R.2.1 = 0 then -1 else nI R.1) → (k = 1 → ans = R.2.1) → (k = 2 → ans = nI (24 - cnt R.2.2.1 0)) → ConI E L m_M_judge 74 [.int (nI r), .int (nI k)] h2 (fun y2 h3 => ans = y2 ∧ Inv h3 (K + 60)) := by
          intro ans a0 a1 a2
          have M1 : MdV h2 nB nT tv pk sn ck := MsV_eq C.2.2.1 (eX 75 (by omega)).2.1
          refine B_M_judge hE (by omega) ((w1 h2).use (brF (by decide) ((w2 h2).use (brF' (by decide) ⟨in93 hr, ?_⟩))))
          rw [nIc (by omega), show (sI h2 74 0 0).2.1 93 r = h.2.1 93 r by rw [sI_A, (eX 93 (by omega)).2.1]]
          refine brF' ps ((m_keeps (h := sI h2 74 0 0) hE (by omega)).mono (fun h3 z3 => ?_))
          obtain ⟨e3, a3⟩ := z3
          have M3 : MdV h3 nB nT tv pk sn ck := MsV_eq M1 (e3 75 (by omega)).2.1
          have acts := m_actsAll (h := h3) hE (L := L - 1) (by omega) (σ := (pk, lv, sn, ck)) (ws := h.2.2 (14 + 2 * r + 1)) hr (n := n) (by rw [(e3 94 (by omega)).2.1, sI_A, (eX 94 (by omega)).2.1]; exact q6) q1 (fun j hj => by rw [(e3 95 (by omega)).2.2, sI_A, (eX 95 (by omega)).2.2, ← q7 j hj, show 15 + 2 * r = 14 + 2 * r + 1 by omega]) ok (show ck + 50 < 1073741824 by omega) M3
          rw [hR] at acts
          refine acts.mono (fun y4 h4 z4 => ?_)
          obtain ⟨rfl, f4, g4, M4⟩ := z4
          refine (m_itemsIn hE (by omega) M4).use ((m_isAgain (h := h4) hE (by omega)).mono (fun h5 z5 => ?_))
          obtain ⟨e5, a5, b5⟩ := z5
          have g5 : h5.1 74 16 = R.2.1 := by rw [(e5 74 (by omega)).1]; exact g4
          have M5 : MdV h5 nB nT tv pk sn ck := MsV_back M1 M4 (fun j hj => by rw [a5 j hj, (f4.1 79 (by omega)).2.1, a3 j hj]; rfl) (fun j hj => b5 j (Or.inl hj))
          have t5 : EqT h h5 := by
            have t1 : EqT h h2 := EqT.of eX (fun p hp => (show ∀ p ∈ perF2, ¬ (6 ≤ p.1 ∧ p.1 ≤ 8) by decide) p hp) (fun p hp => (show ∀ p ∈ perA2, ¬ (6 ≤ p ∧ p ≤ 8) by decide) p hp) (by omega)
            have t3 : EqT (sI h2 74 0 0) h3 := EqT.of e3 (fun p hp => (show ∀ p ∈ perF2, ¬ (p.1 = 79) by decide) p hp) (fun p hp => (show ∀ p ∈ perA2, ¬ (p = 79) by decide) p hp) (by omega)
            have t4 : EqT h4 h5 := ⟨fun p hp => by rw [(e5 p.1 ((show ∀ p ∈ perF2, ¬ (p.1 = 75) by decide) p hp)).1], fun q hq => (e5 q ((show ∀ p ∈ perA2, ¬ (p = 75) by decide) q hq)).2, fun k hk => b5 k (Or.inr hk)⟩
            exact (((t1.trans (thr_eq h2).t).trans t3).trans f4.2).trans t4
          have pz : PickZ h5 := PickZ_eq I.2.2.2.2.2.2 (fun a h1 h2 => by
            rw [(e5 a (by omega)).2.1, (f4.1 a (by omega)).2.1, (e3 a (by omega)).2.1, sI_A, (eX a (by omega)).2.1])
          have gg : ∀ q, q < 6 → h5.1 q = h.1 q ∧ h5.2.1 q = h.2.1 q := fun q hq => by
            have s1 := eX q (by omega)
            have s3 := e3 q (by omega)
            have s4 := f4.1 q (by omega)
            have s5 := e5 q (by omega)
            have s2 : (sI h2 74 0 0).1 q = h2.1 q := if_neg (by omega)
            exact ⟨((s5.1.trans s4.1).trans s3.1).trans (s2.trans s1.1), (s5.2.1.trans s4.2.1).trans (s3.2.1.trans s1.2.1)⟩
          have I5 : Inv h5 (K + 60) := I.move t5 ⟨nB, nT, tv, pk, lv, sn, ck, by omega, StV_eq C.1 (by rw [(gg 1 (by omega)).1]) (by rw [(gg 1 (by omega)).1]) (gg 2 (by omega)).2, LyV_eq C.2.1 (gg 4 (by omega)).2 (gg 5 (by omega)).2, M5, C.2.2.2⟩ pz (by omega) hK
          rw [g5, nI_z (by omega), show (1 : Int32) = nI 1 from rfl, nIe (by omega) (by omega)]
          refine ⟨fun q0 => ⟨fun q1 => ⟨?_, I5⟩, fun q1 => ⟨a1 q1, I5⟩⟩, fun q0 => ⟨fun c => ⟨?_, I5⟩, fun c => ⟨?_, I5⟩⟩⟩
          · rw [a2 (by omega), packed_eq]
          · rw [a0 q0, if_neg c]
          · rw [a0 q0, if_pos c]; rfl
        rw [nI_z (by omega), show (1 : Int32) = nI 1 from rfl, nIe (by omega) (by omega)]
        refine ⟨fun q0 => ⟨fun q1 => (ly_manyPacked hE (by omega) Y2).use (mm _ (fun z => by omega) (fun z => by omega) (fun _ => rfl)), fun q1 => (show RdI E (L - 1) m_Layout_whyStopped 6 [] h2 R.2.1 from B_Layout_whyStopped hE (by omega) c6 ⟨f2, rfl⟩).use (mm _ (fun z => by omega) (fun _ => rfl) (fun z => by omega))⟩, fun q0 => ?_⟩
        have m1 := row_many (h := h2) hE (L := L - 1) (by omega) c13
        rw [show h2.1 (14 + 2 * r) 2 = nI n by rw [(eX (14 + 2 * r) (by omega)).1]; exact q3] at m1
        refine m1.use ?_
        rw [nIl (by omega) (by omega)]
        refine ⟨fun c => mm _ (fun _ => ?_) (fun z => by omega) (fun z => by omega), fun c => mm _ (fun _ => ?_) (fun z => by omega) (fun z => by omega)⟩
        · by_cases d : R.2.1 = 0
          · rw [if_pos d]; rfl
          · have := k5 d; omega
        · by_cases d : R.2.1 = 0
          · have := k4 d; omega
          · rw [if_neg d]
    · have hv2 := not_small (n := 3) (by omega) hv
      refine same_rd (x := -2) I hK (RdX.of I.2.2.2.2.2.2 ?_) (fun h1 e I1 => ?_)
      · refine B_X_judge hE (by omega) ((x_isRow hE (by omega) hr).use (brF (by decide) ?_))
        by_cases c : v < 0
        · exact brT c ⟨rfl, rfl⟩
        · refine brF c (brF (fun z => ?_) ⟨rfl, rfl⟩)
          have c2 := hv2.resolve_left c
          rw [i32_le, nI_int (by omega)] at c2
          rw [i32_le] at z
          have e40 : (2 : Int32).toInt = 2 := rfl
          omega
      · exact B_M_judge hE (by omega) ((w1 h1).use (brF (by decide) ((m_w_no (a := 0) (b := 2) hE (by omega) (by omega) (by omega) (fun ⟨k, _, q, r⟩ => hv ⟨k, by omega, r⟩)).use (brT' rfl ⟨rfl, thr_eq _, I1.2.2.2.2.2.2⟩))))
  · refine same_rd (x := -2) I hK (RdX.of I.2.2.2.2.2.2 ?_) (fun h1 e I1 => ?_)
    · exact B_X_judge hE (by omega) ((x_isRow_no hE (by omega) hu).use (brT rfl ⟨rfl, rfl⟩))
    · exact B_M_judge hE (by omega) ((m_w_no (a := 0) (b := 3) hE (by omega) (by omega) (by omega) (w3 hu)).use (brT rfl ⟨rfl, thr_eq _, I1.2.2.2.2.2.2⟩))
end Judge
