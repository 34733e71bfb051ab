/-! ===== store ===== -/
section StoreX
variable {E : EnvX} {L : Nat} {h : Hp} {K : Nat}
/-- what reading leaves as it was -/
def stF (h h' : Hp) : Prop := (∀ q, ¬ (q = 9 ∨ q = 11 ∨ q = 12 ∨ q = 1 ∨ q = 2 ∨ q = 4 ∨ q = 5 ∨ q = 74 ∨ q = 75 ∨ q = 78) → h'.1 q = h.1 q ∧ h'.2.1 q = h.2.1 q ∧ h'.2.2 q = h.2.2 q) ∧ ∀ j, 220 ≤ j → h'.2.1 75 j = h.2.1 75 j
theorem inv_store {h' : Hp} (I : Inv h K) (hK : K + 60 ≤ 100000) (f : stF h h') (C : CurR h' 1 3 0 (K + 60)) (e1 : h'.1 9 2 = 0) (e2 : h'.1 74 5 = 0) (F : FaultR h') : Inv h' (K + 60) := by
  obtain ⟨-, i1, i2, i3, i4, i5, i6⟩ := I
  obtain ⟨g, g75⟩ := f
  have gf : ∀ q k, ¬ (q = 9 ∨ q = 11 ∨ q = 12 ∨ q = 1 ∨ q = 2 ∨ q = 4 ∨ q = 5 ∨ q = 74 ∨ q = 75 ∨ q = 78) → h'.1 q k = h.1 q k := fun q k hq => by rw [(g q hq).1]
  refine ⟨hK, C, ?_, ⟨0, by decide, e1, e2, fun k hk => absurd hk (Nat.not_lt_zero k)⟩, F, ?_, PickZ_eq i6 (fun a h1 h2 => (g a (by omega)).2.1)⟩
  · intro r hr
    have h0 := i2 r hr
    rw [gf (14 + 2 * r) 2 (by omega), gf (14 + 2 * r) 1 (by omega), (g (15 + 2 * r) (by omega)).2.2, (g 93 (by omega)).2.1, (g 94 (by omega)).2.1, (g 95 (by omega)).2.2]
    exact h0
  · refine ImgR.wk (K := K) ?_ (by omega)
    intro i hi
    have h0 := i5 i hi
    rw [(g 24 (by omega)).2.1, (g 76 (by omega)).2.1]
    refine h0.elim Or.inl (fun q => Or.inr ⟨q.1, q.2.1, ?_⟩)
    obtain ⟨nB2, nT2, tv2, pk2, lv2, sn2, ck2, c1, C2⟩ := q.2.2
    exact ⟨nB2, nT2, tv2, pk2, lv2, sn2, ck2, c1, StV_eq C2.1 (gf _ 1 (by omega)) (gf _ 2 (by omega)) (g _ (by omega)).2.1, LyV_eq C2.2.1 (g _ (by omega)).2.1 (g _ (by omega)).2.1, MsV_cp C2.2.2.1 (fun k hk => g75 _ (by omega)), C2.2.2.2⟩
theorem eq_store (hE : EOk E) (hL : 20 ≤ L) (I : Inv h K) (hK : K + 60 ≤ 100000) (u : Int32) : Same E L m_X_store m_M_store [.int u] h K := by
  obtain ⟨-, i1, i2, i3, i4, i5, i6⟩ := id I
  obtain ⟨len, hlen, t1, t2, t3⟩ := i3
  have rl : ∀ {g : Hp}, g.1 9 2 = nI len → RdI E (L - 1) m_Reader_length 9 [] g (nI len) := fun q => B_Reader_length hE (by omega) ⟨q, rfl⟩
  by_cases hu : ∃ n, 0 ≤ n ∧ n ≤ len ∧ u = nI n
  · obtain ⟨n, -, hn, rfl⟩ := hu
    let T : Nat → Nat := fun p => (h.2.1 10 p).toNatClampNeg
    have hT : ∀ p, p < len → h.2.1 10 p = nI (T p) ∧ h.2.1 77 p = nI (T p) ∧ T p < 256 := fun p hp => by
      obtain ⟨b, b1, b2, b3⟩ := t3 p hp
      have : T p = b := by
        show (h.2.1 10 p).toNatClampNeg = b
        rw [b2, nIc (by omega)]
      rw [this]
      exact ⟨b2, b3, b1⟩
    refine B_X_store hE (by omega) (brF (nIneg (by omega)) ((rl t1).use (brT (by rw [nIl (by omega) (by omega)]; exact hn) ?_)))
    refine (rd_read hE (by omega) (T := T) (n := n) (by omega) (fun p hp => ⟨(hT p (by omega)).1, (hT p (by omega)).2.2⟩)).mono (fun h1 x => ?_)
    obtain ⟨x1, x2, x3⟩ := x
    have fk : RdI E (L - 1) m_Reader_faultKind 9 [] h1 (h1.1 9 4) := B_Reader_faultKind hE (by omega) ⟨rfl, rfl⟩
    refine fk.use ?_
    generalize hZ : rRn T n n 0 0 0 0 0 0 (fun _ _ => 0) = Z at x3
    have ms : ∀ g : Hp, g.2.1 77 = h.2.1 77 → g.1 74 5 = h.1 74 5 → ConI E L m_M_store 74 [.int (nI n)] g (stP Z g) := fun g g1 g2 => by
      rw [← hZ]
      exact m_store hE (by omega) (len := len) hlen (g2.trans t2) hn (fun p hp => by rw [g1]; exact ⟨(hT p hp).2.1, (hT p hp).2.2⟩)
    rcases x3 with q | ⟨q0, q4, q5, qS⟩
    · have ne : ¬ h1.1 9 4 = 0 := by
        have := q.2.1
        rw [q.2.2.1, nI_z (by omega)]; exact q.1
      refine brF ne (fk.use ?_)
      refine (ms h1 (x1 77 (by omega)).2.1 (by rw [(x1 74 (by omega)).1])).mono (fun y h2 w => ?_)
      obtain ⟨w1, w2, w3, w4⟩ := w
      rcases w4 with ⟨z1, z2, z3, z4, z5⟩ | ⟨nB, nT, tv, z, -⟩
      · refine ⟨by rw [z2, q.2.2.1], ?_⟩
        have g : stF h h2 := ⟨fun r hr => by
          have a := x1 r (by omega)
          have b := w1 r (by omega)
          exact ⟨b.1.trans a.1, b.2.1.trans a.2.1, b.2.2.trans a.2.2⟩, fun j hj => by rw [w3 j hj, (x1 75 (by omega)).2.1]⟩
        have gx : ∀ r, r = 1 ∨ r = 2 ∨ r = 4 ∨ r = 5 → h2.1 r = h.1 r ∧ h2.2.1 r = h.2.1 r := fun r hr => by
          have a := x1 r (by omega)
          have b := w1 r (by omega)
          exact ⟨b.1.trans a.1, b.2.1.trans a.2.1⟩
        refine inv_store I hK g ((CurR_eq i1 ?_ ?_ (gx 2 (by omega)).2 (gx 4 (by omega)).2 (gx 5 (by omega)).2 (z5.trans (x1 75 (by omega)).2.1)).wk (by omega)) ?_ w2 ⟨?_, ?_⟩
        · rw [(gx 1 (by omega)).1]
        · rw [(gx 1 (by omega)).1]
        · rw [(w1 9 (by omega)).1]; exact x2
        · rw [(w1 9 (by omega)).1, q.2.2.1, z3]
        · rw [(w1 9 (by omega)).1, q.2.2.2, z4]
      · exact absurd (by rw [z]) q.1
    · refine brT q4 ?_
      have c1 : cls 1 = 9 := by decide +kernel
      have c3 : cls 3 = 2 := by decide +kernel
      have fr : ConA E (L - 1) m_Reader_fresh 9 [] h1 (fun y7 h6 => y7 = 11 ∧ h6 = h1) := B_Reader_fresh hE (by omega) ⟨rfl, rfl⟩
      refine fr.mono (fun y7 h6 k => ?_)
      obtain ⟨rfl, rfl⟩ := k
      refine (store_takeFrom hE (by omega) c1 qS (by omega)).mono (fun h8 k8 => ?_)
      obtain ⟨e8, S8⟩ := k8
      refine (ly_clear hE (by omega) c3).mono (fun h9 k9 => ?_)
      obtain ⟨e9, Y9⟩ := k9
      have S9 : StV h9 1 Z.2.2.1 Z.2.2.2.1 Z.2.2.2.2 := S8.keep e9 (by omega) (by omega)
      refine (store_itemCount hE (by omega) S9).use ?_
      have X : EqO (fun q => q = 9 ∨ q = 11 ∨ q = 12 ∨ q = 1 ∨ q = 2 ∨ q = 4 ∨ q = 5) h h9 := (x1.wk (fun q z => by omega)).trans ((e8.wk (fun q z => by omega)).trans (e9.wk (fun q z => by omega)))
      refine (ms h9 (X 77 (by omega)).2.1 (by rw [(X 74 (by omega)).1])).mono (fun y h2 w => ?_)
      obtain ⟨w1, w2, w3, w4⟩ := w
      rcases w4 with ⟨z1, -⟩ | ⟨nB, nT, tv, z, B, zy, z13, z14, M⟩
      · exact absurd q0 z1
      · rw [z] at S9 ⊢
        refine ⟨zy.symm, ?_⟩
        have g : stF h h2 := ⟨fun r hr => by
          have a := X r (by omega)
          have b := w1 r (by omega)
          exact ⟨b.1.trans a.1, b.2.1.trans a.2.1, b.2.2.trans a.2.2⟩, fun j hj => by rw [w3 j hj, (X 75 (by omega)).2.1]⟩
        have e99 : h9.1 9 = h6.1 9 := ((e9 9 (by omega)).1).trans (e8 9 (by omega)).1
        refine inv_store I hK g ⟨nB, nT, tv, fun _ => 0, fun _ => 0, fun _ => 0, 0, Nat.zero_le _, S9.keep w1 (by omega) (by omega), Y9.keep w1 (by omega) (by omega), M, acy_none, OrdV_none (fun _ _ => Nat.le_refl _), B⟩ ?_ w2 ⟨?_, ?_⟩
        · rw [(w1 9 (by omega)).1, e99]; exact x2
        · rw [(w1 9 (by omega)).1, e99, q4, z13]
        · rw [(w1 9 (by omega)).1, e99, q5, z14]
  · refine same_rd (x := -3) I hK (RdX.of i6 ?_) (fun h1 e I1 => ?_)
    · refine B_X_store hE (by omega) ⟨fun _ => ⟨rfl, rfl⟩, fun c => (rl t1).use (brF (fun c2 => hu ?_) ⟨rfl, rfl⟩)⟩
      obtain ⟨n, hn, rfl⟩ := nI_of c
      rw [nIl hn (by omega)] at c2
      exact ⟨n, Nat.zero_le _, c2, rfl⟩
    · refine B_M_store hE (by omega) ?_
      have w := m_w_no (h := sI h1 74 0 0) hE (show 1 ≤ L - 1 by omega) (Nat.zero_le len) (show len < 2147483648 by omega) (v := u) hu
      have e5 : (sI h1 74 0 0).1 74 5 = nI len := (e.f 74 5).trans t2
      rw [e5, nI_l (n := len) (by omega)]
      exact w.use (brT' rfl ⟨rfl, thr_eq _, I1.2.2.2.2.2.2⟩)
end StoreX
