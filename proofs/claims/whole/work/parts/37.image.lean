/-! ===== images ===== -/
theorem sh22 {i : Nat} (hi : i < 2) : rfa 22 i = 25 + 5 * i ∧ cls (25 + 5 * i) = 9 ∧ rfa 23 i = 27 + 5 * i ∧ cls (27 + 5 * i) = 2 :=
  (show ∀ i, i < 2 → rfa 22 i = 25 + 5 * i ∧ cls (25 + 5 * i) = 9 ∧ rfa 23 i = 27 + 5 * i ∧ cls (27 + 5 * i) = 2 by decide +kernel) i hi
theorem k22 : akd 22 = 4 ∧ aln 22 = 2 ∧ akd 23 = 4 ∧ aln 23 = 2 ∧ akd 24 = 3 ∧ aln 24 = 2 ∧ akd 76 = 3 ∧ aln 76 = 2 := by decide +kernel
theorem in22 {i : Nat} (hi : i < 2) : inR 22 (nI i) := inR_of k22.1 (by rw [k22.2.1]; exact hi) (by rw [k22.2.1]; decide)
theorem in23 {i : Nat} (hi : i < 2) : inR 23 (nI i) := inR_of k22.2.2.1 (by rw [k22.2.2.2.1]; exact hi) (by rw [k22.2.2.2.1]; decide)
theorem in24 {i : Nat} (hi : i < 2) : inZ 24 (nI i) := inZ_of k22.2.2.2.2.1 (by rw [k22.2.2.2.2.2.1]; exact hi) (by rw [k22.2.2.2.2.2.1]; decide)
theorem in76 {i : Nat} (hi : i < 2) : inZ 76 (nI i) := inZ_of k22.2.2.2.2.2.2.1 (by rw [k22.2.2.2.2.2.2.2]; exact hi) (by rw [k22.2.2.2.2.2.2.2]; decide)
section Img
variable {E : EnvX} {L : Nat} {h : Hp} {K : Nat} {nB nT : Nat} {tv : Nat → Nat → Nat} {pk lv sn : Nat → Nat} {ck : Nat}
theorem store_takeFrom (hE : EOk E) (hL : 1 ≤ L) {r r2 : Nat} (hr : cls r = 9) (S : StV h r2 nB nT tv) (hd : r2 ≠ r) : ConV E L m_Store_takeFrom r [.ref r2] h (fun h' => EqO (fun q => q = r ∨ q = r + 1) h h' ∧ StV h' r nB nT tv) := by
  obtain ⟨s1, s2, s3⟩ := sh_store hr
  obtain ⟨t1, t2, t3⟩ := sh_store S.1
  obtain ⟨a, b, c, d, f, g⟩ := S
  refine B_Store_takeFrom hE hL hr ?_
  rw [show (0 : Int32).toNatClampNeg = 0 from rfl, show (168 : Int32).toNatClampNeg = 168 from rfl, s1, t1]
  refine ⟨a, rfl, ⟨t2, s2, by omega, by decide, by decide, by decide, by omega, by omega⟩, a, a, (EqO.sC (Or.inr rfl)).trans ((EqO.sI (Or.inl rfl)).trans (EqO.sI (Or.inl rfl))), hr, ?_, ?_, d, f, fun i k hi hk => ?_⟩
  · rw [sI_1, if_pos rfl, if_neg (by decide), sI_1, if_pos rfl, if_pos rfl]; exact b
  · rw [sI_1, if_pos rfl, if_pos rfl, sI_1, if_neg hd]; exact c
  · show (sC h (r2 + 1) (r + 1) 0 0 168).2.1 (r + 1) (7 * i + k) = _ ∧ _
    rw [sC_A, if_pos rfl, if_pos (by omega), Nat.zero_add, Nat.sub_zero]
    exact g i k hi hk
theorem MsV_cp {h' : Hp} {o o' : Nat} (M : MsV h o nB nT tv pk sn ck) (a : ∀ k, k < 220 → h'.2.1 75 (o' + k) = h.2.1 75 (o + k)) : MsV h' o' nB nT tv pk sn ck := by
  obtain ⟨m0, ⟨e0, e1, e2, e3⟩, m1, m2, m3, m4⟩ := M
  refine ⟨m0, ⟨?_, by rw [a _ (by omega)]; exact e1, by rw [a _ (by omega)]; exact e2, by rw [a _ (by omega)]; exact e3⟩, fun i k hi hk => by rw [a _ (by omega)]; exact m1 i k hi hk, fun i hi => by rw [a _ (by omega)]; exact m2 i hi, fun i hi => by rw [a _ (by omega)]; exact m3 i hi, m4⟩
  have := a 0 (by omega)
  rw [Nat.add_zero, Nat.add_zero] at this
  rw [this]; exact e0
theorem x_isImage (hE : EOk E) (hL : 1 ≤ L) {r : Nat} (hr : r < 2) : RdI E L m_X_isImage 0 [.int (nI r)] h 1 :=
  B_X_isImage hE hL (brF (nIneg (by omega)) (brF (nG 2 hr) ⟨rfl, rfl⟩))
theorem x_isImage_no (hE : EOk E) (hL : 1 ≤ L) {v : Int32} (hv : ¬ ∃ r, r < 2 ∧ v = nI r) : RdI E L m_X_isImage 0 [.int v] h 0 := by
  refine B_X_isImage hE hL ?_
  by_cases c : v < 0
  · exact brT c ⟨rfl, rfl⟩
  · exact brF c (brT ((not_small (n := 2) (by omega) hv).resolve_left c) ⟨rfl, rfl⟩)
theorem w1no {v : Int32} (hv : ¬ ∃ r, r < 2 ∧ v = nI r) : ¬ ∃ k, 0 ≤ k ∧ k ≤ 1 ∧ v = nI k := fun ⟨k, _, q, r⟩ => hv ⟨k, by omega, r⟩
theorem eq_image (hE : EOk E) (hL : 20 ≤ L) (I : Inv h K) (hK : K + 60 ≤ 100000) (u : Int32) : Same E L m_X_image m_M_image [.int u] h K := by
  by_cases hu : ∃ r, r < 2 ∧ u = nI r
  · obtain ⟨i, hi, rfl⟩ := hu
    obtain ⟨-, i1, i2, i3, i4, i5, i6⟩ := id I
    obtain ⟨nB, nT, tv, pk, lv, sn, ck, hck, C⟩ := i1
    obtain ⟨s1, s2, s3, s4⟩ := sh22 hi
    refine B_X_image hE (by omega) ((x_isImage hE (by omega) hi).use (brF' (by decide) ⟨in22 hi, ?_⟩))
    rw [nIc (by omega), s1, s3]
    refine (store_takeFrom hE (by omega) s2 C.1 (by omega)).mono (fun h1 q1 => ⟨in23 hi, (ly_takeFrom hE (by omega) s4 (C.2.1.keep q1.1 (by omega) (by omega)) (by omega)).mono (fun h2 q2 => ⟨in24 hi, Or.inr rfl, ?_⟩)⟩)
    obtain ⟨e1, S1⟩ := q1
    obtain ⟨e2, Y2⟩ := q2
    have S2 : StV h2 (25 + 5 * i) nB nT tv := S1.keep e2 (by omega) (by omega)
    have eX : EqO (fun q => q = 24 ∨ q = 25 + 5 * i ∨ q = 26 + 5 * i ∨ q = 28 + 5 * i ∨ q = 29 + 5 * i) h (sA h2 24 i 1) := ((e1.wk (fun q z => by omega)).trans (e2.wk (fun q z => by omega))).trans (EqO.sA (Or.inl rfl))
    have e24 : h2.2.1 24 = h.2.1 24 := by rw [(e2 24 (by omega)).2.1, (e1 24 (by omega)).2.1]
    have M3 : MdV (sA h2 24 i 1) nB nT tv pk sn ck := MsV_eq C.2.2.1 (eX 75 (by omega)).2.1
    refine B_M_image hE (by omega) ((m_w_yes (a := 0) (b := 1) hE (by omega) (by omega) (by omega) (by omega)).use (brF' (by decide) ?_))
    have loop : ∀ m k, m + k = 220 → ∀ h3, EqO (fun q => q = 74 ∨ q = 75) (sA h2 24 i 1) h3 → (h3.1 74 5 = (sA h2 24 i 1).1 74 5 ∧ h3.1 74 13 = (sA h2 24 i 1).1 74 13 ∧ h3.1 74 14 = (sA h2 24 i 1).1 74 14) → (∀ j, ¬ (220 * (i + 1) ≤ j ∧ j < 220 * (i + 1) + k) → h3.2.1 75 j = (sA h2 24 i 1).2.1 75 j) → (∀ j, j < k → h3.2.1 75 (220 * (i + 1) + j) = (sA h2 24 i 1).2.1 75 j) → at_M_image_20 E L h3 (fun y2 h2 => (0 : Int32) = y2 ∧ Inv h2 (K + 60)) (nI i) (nI k) := by
      intro m
      induction m with
      | zero =>
        intro k hk h3 f1 f2 f3 f4
        rw [show k = 220 by omega] at f3 f4 ⊢
        refine B_M_image_20 (brT (nEnd 220) ⟨in76 hi, Or.inr rfl, rfl, ?_⟩)
        rw [nIc (by omega)]
        have g : ∀ q, ¬ (q = 24 ∨ q = 25 + 5 * i ∨ q = 26 + 5 * i ∨ q = 28 + 5 * i ∨ q = 29 + 5 * i ∨ q = 74 ∨ q = 75 ∨ q = 76) → (sA h3 76 i 1).1 q = h.1 q ∧ (sA h3 76 i 1).2.1 q = h.2.1 q ∧ (sA h3 76 i 1).2.2 q = h.2.2 q := fun q hq => by
          have a := eX q (by omega)
          have b := f1 q (by omega)
          have c := (EqO.sA (F := fun q => q = 76) (h := h3) (r := 76) (k := i) (v := 1) rfl) q (by omega)
          exact ⟨c.1.trans (b.1.trans a.1), c.2.1.trans (b.2.1.trans a.2.1), c.2.2.trans (b.2.2.trans a.2.2)⟩
        have gf : ∀ q k, ¬ (q = 24 ∨ q = 25 + 5 * i ∨ q = 26 + 5 * i ∨ q = 28 + 5 * i ∨ q = 29 + 5 * i ∨ q = 74 ∨ q = 75 ∨ q = 76) → (sA h3 76 i 1).1 q k = h.1 q k := fun q k hq => by rw [(g q hq).1]
        have g75 : ∀ j, ¬ (220 * (i + 1) ≤ j ∧ j < 220 * (i + 1) + 220) → (sA h3 76 i 1).2.1 75 j = h.2.1 75 j := fun j hj => by
          rw [sA_A, if_neg (show ¬ 75 = 76 by omega), f3 j hj, (eX 75 (by omega)).2.1]
        have g74 : ∀ k, (k = 5 ∨ k = 13 ∨ k = 14) → (sA h3 76 i 1).1 74 k = h.1 74 k := fun k hk => by
          have a := (eX 74 (by omega)).1
          show h3.1 74 k = _
          rw [← a]
          rcases hk with rfl | rfl | rfl
          · exact f2.1
          · exact f2.2.1
          · exact f2.2.2
        have g24 : ∀ j, (sA h3 76 i 1).2.1 24 j = if j = i then 1 else h.2.1 24 j := fun j => by
          rw [sA_A, if_neg (show ¬ 24 = 76 by omega), (f1 24 (by omega)).2.1, sA_A, if_pos rfl, e24]
        have g76 : ∀ j, (sA h3 76 i 1).2.1 76 j = if j = i then 1 else h.2.1 76 j := fun j => by
          rw [sA_A, if_pos rfl, (f1 76 (by omega)).2.1, (eX 76 (by omega)).2.1]
        refine ⟨hK, ?_, ?_, ?_, ?_, ?_, PickZ_eq i6 (fun a h1 h2 => (g a (by omega)).2.1)⟩
        · refine ⟨nB, nT, tv, pk, lv, sn, ck, by omega, StV_eq C.1 (gf 1 1 (by omega)) (gf 1 2 (by omega)) (g 2 (by omega)).2.1, LyV_eq C.2.1 (g 4 (by omega)).2.1 (g 5 (by omega)).2.1, MsV_cp C.2.2.1 (fun k hk => g75 _ (by omega)), C.2.2.2⟩
        · intro r hr
          have h0 := i2 r hr
          rw [gf (14 + 2 * r) 2 (by omega), gf (14 + 2 * r) 1 (by omega), (g (15 + 2 * r) (by omega)).2.2, (g 93 (by omega)).2.1, (g 94 (by omega)).2.1, (g 95 (by omega)).2.2]
          exact h0
        · unfold TapeR
          rw [gf 9 2 (by omega), g74 5 (by omega), (g 10 (by omega)).2.1, (g 77 (by omega)).2.1]
          exact i3
        · unfold FaultR
          rw [gf 9 4 (by omega), gf 9 5 (by omega), g74 13 (by omega), g74 14 (by omega)]
          exact i4
        · intro i' hi'
          rw [g24, g76]
          by_cases e : i' = i
          · subst e
            rw [if_pos rfl, if_pos rfl]
            refine Or.inr ⟨rfl, rfl, nB, nT, tv, pk, lv, sn, ck, by omega, ?_, ?_, ?_, C.2.2.2⟩
            · exact ((S2.keep (EqO.sA (F := fun q => q = 24) rfl) (by omega) (by omega)).keep f1 (by omega) (by omega)).keep (EqO.sA (F := fun q => q = 76) rfl) (by omega) (by omega)
            · exact ((Y2.keep (EqO.sA (F := fun q => q = 24) rfl) (by omega) (by omega)).keep f1 (by omega) (by omega)).keep (EqO.sA (F := fun q => q = 76) rfl) (by omega) (by omega)
            · refine MsV_cp M3 (fun k hk => ?_)
              rw [sA_A, if_neg (show ¬ 75 = 76 by omega), f4 k hk, Nat.zero_add]
          · rw [if_neg e, if_neg e]
            refine (i5 i' hi').elim Or.inl (fun q => Or.inr ⟨q.1, q.2.1, ?_⟩)
            obtain ⟨nB2, nT2, tv2, pk2, lv2, sn2, ck2, hck2, C2⟩ := q.2.2
            refine ⟨nB2, nT2, tv2, pk2, lv2, sn2, ck2, by omega, StV_eq C2.1 (gf _ 1 (by omega)) (gf _ 2 (by omega)) (g _ (by omega)).2.1, LyV_eq C2.2.1 (g _ (by omega)).2.1 (g _ (by omega)).2.1, MsV_cp C2.2.2.1 (fun k hk => g75 _ (by omega)), C2.2.2.2⟩
      | succ m ih =>
        intro k hk h3 f1 f2 f3 f4
        refine B_M_image_20 (brF (nG 220 (by omega)) ?_)
        rw [show (220 : Int32) = nI 220 from rfl, nI_1, nI_mul, nI_add, nIc (by omega), nIc (by omega), nI_1]
        refine ⟨in75 (by omega), in75 (by omega), ih (k + 1) (by omega) _ (f1.trans (EqO.sA (Or.inr rfl))) f2 (fun j hj => ?_) (fun j hj => ?_)⟩
        · rw [sA_A, if_pos rfl, if_neg (by omega)]; exact f3 j (by omega)
        · rw [sA_A, if_pos rfl]
          by_cases e : j = k
          · rw [if_pos (by omega), e]; exact f3 k (by omega)
          · rw [if_neg (by omega)]; exact f4 j (by omega)
    exact loop 220 0 (by omega) _ (EqO.sI (Or.inl rfl)) ⟨rfl, rfl, rfl⟩ (fun j _ => rfl) (fun j hj => absurd hj (Nat.not_lt_zero j))
  · refine same_rd (x := -2) I hK (RdX.of I.2.2.2.2.2.2 ?_) (fun h1 e I1 => ?_)
    · exact B_X_image hE (by omega) ((x_isImage_no hE (by omega) hu).use (brT' rfl ⟨rfl, rfl⟩))
    · exact B_M_image hE (by omega) ((m_w_no (a := 0) (b := 1) hE (by omega) (by omega) (by omega) (w1no hu)).use (brT' rfl ⟨rfl, thr_eq _, I1.2.2.2.2.2.2⟩))
theorem eq_restore (hE : EOk E) (hL : 20 ≤ L) (I : Inv h K) (hK : K + 60 ≤ 100000) (u : Int32) : Same E L m_X_restore m_M_restore [.int u] h K := by
  by_cases hu : ∃ r, r < 2 ∧ u = nI r
  · obtain ⟨i, hi, rfl⟩ := hu
    obtain ⟨s1, s2, s3, s4⟩ := sh22 hi
    rcases I.2.2.2.2.2.1 i hi with ⟨q1, q2⟩ | ⟨q1, q2, q3⟩
    · refine same_rd (x := -5) I hK (RdX.of I.2.2.2.2.2.2 ?_) (fun h1 e I1 => ?_)
      · refine B_X_restore hE (by omega) ((x_isImage hE (by omega) hi).use (brF' (by decide) ⟨in24 hi, ?_⟩))
        rw [nIc (by omega)]
        exact brT' q1 ⟨rfl, rfl⟩
      · refine B_M_restore hE (by omega) ((m_w_yes (a := 0) (b := 1) hE (by omega) (by omega) (by omega) (by omega)).use (brF' (by decide) ⟨in76 hi, ?_⟩))
        rw [nIc (by omega), show (sI h1 74 0 0).2.1 76 i = h.2.1 76 i by rw [sI_A, e.a 76]]
        exact brT' q2 ⟨rfl, thr_eq _, I1.2.2.2.2.2.2⟩
    · obtain ⟨nB, nT, tv, pk, lv, sn, ck, hck, C⟩ := q3
      have c1 : cls 1 = 9 := by decide +kernel
      have c3 : cls 3 = 2 := by decide +kernel
      refine B_X_restore hE (by omega) ((x_isImage hE (by omega) hi).use (brF' (by decide) ⟨in24 hi, ?_⟩))
      rw [nIc (by omega), s1, s3, q1]
      refine brF' (by decide) ⟨in22 hi, (store_takeFrom hE (by omega) c1 C.1 (by omega)).mono (fun h1 z1 => ⟨in23 hi, (ly_takeFrom hE (by omega) c3 (C.2.1.keep z1.1 (by omega) (by omega)) (by omega)).mono (fun h2 z2 => ?_)⟩)⟩
      obtain ⟨e1, S1⟩ := z1
      obtain ⟨e2, Y2⟩ := z2
      have S2 : StV h2 1 nB nT tv := S1.keep e2 (by omega) (by omega)
      have eX : EqO (fun q => q = 1 ∨ q = 2 ∨ q = 4 ∨ q = 5) h h2 := (e1.wk (fun q z => by omega)).trans (e2.wk (fun q z => by omega))
      have M2 : MsV h2 (220 * (i + 1)) nB nT tv pk sn ck := MsV_eq C.2.2.1 (eX 75 (by omega)).2.1
      have t1 : EqT h h2 := EqT.of eX (fun p hp => (show ∀ p ∈ perF2, ¬ (p.1 = 1 ∨ p.1 = 2 ∨ p.1 = 4 ∨ p.1 = 5) by decide) p hp) (fun p hp => (show ∀ p ∈ perA2, ¬ (p = 1 ∨ p = 2 ∨ p = 4 ∨ p = 5) by decide) p hp) (by omega)
      refine B_M_restore hE (by omega) ((m_w_yes (a := 0) (b := 1) hE (by omega) (by omega) (by omega) (by omega)).use (brF' (by decide) ⟨in76 hi, ?_⟩))
      rw [nIc (by omega), show (sI h2 74 0 0).2.1 76 i = h.2.1 76 i by rw [sI_A, (eX 76 (by omega)).2.1], q2]
      refine brF' (by decide) ?_
      have loop : ∀ m k, m + k = 220 → ∀ h3, FrM h2 h3 → (∀ j, j < k → h3.2.1 75 j = h2.2.1 75 (220 * (i + 1) + j)) → at_M_restore_32 E L h3 (fun y2 h2 => (0 : Int32) = y2 ∧ Inv h2 (K + 60)) (nI i) (nI k) := by
        intro m
        induction m with
        | zero =>
          intro k hk h3 f f4
          rw [show k = 220 by omega] at f4 ⊢
          refine B_M_restore_32 (brT (nEnd 220) ⟨rfl, I.move (t1.trans f.2) ⟨nB, nT, tv, pk, lv, sn, ck, by omega, S2.keep f.1 (by omega) (by omega), Y2.keep f.1 (by omega) (by omega), MsV_cp M2 (fun k hk => ?_), C.2.2.2⟩ (PickZ_eq I.2.2.2.2.2.2 (fun a h1 h2 => ?_)) (by omega) hK⟩)
          · rw [Nat.zero_add]; exact f4 k hk
          · rw [(f.1 a (by omega)).2.1, (eX a (by omega)).2.1]
        | succ m ih =>
          intro k hk h3 f f4
          refine B_M_restore_32 (brF (nG 220 (by omega)) ?_)
          rw [show (220 : Int32) = nI 220 from rfl, nI_1, nI_mul, nI_add, nIc (by omega), nIc (by omega), nI_1]
          refine ⟨in75 (by omega), in75 (by omega), ih (k + 1) (by omega) _ (f.trans (FrM.s75 (by omega))) (fun j hj => ?_)⟩
          rw [sA_A, if_pos rfl]
          by_cases e : j = k
          · rw [if_pos e, e]; exact f.2.2.2 _ (by omega)
          · rw [if_neg e]; exact f4 j (by omega)
      exact loop 220 0 (by omega) _ FrM.thr (fun j hj => absurd hj (Nat.not_lt_zero j))
  · refine same_rd (x := -2) I hK (RdX.of I.2.2.2.2.2.2 ?_) (fun h1 e I1 => ?_)
    · exact B_X_restore hE (by omega) ((x_isImage_no hE (by omega) hu).use (brT' rfl ⟨rfl, rfl⟩))
    · exact B_M_restore hE (by omega) ((m_w_no (a := 0) (b := 1) hE (by omega) (by omega) (by omega) (w1no hu)).use (brT' rfl ⟨rfl, thr_eq _, I1.2.2.2.2.2.2⟩))
end Img
