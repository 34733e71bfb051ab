section Pub2
variable {E : EnvX} {L : Nat} {h : Hp} {K : Nat} {nB nT : Nat} {tv : Nat → Nat → Nat} {pk lv sn : Nat → Nat} {ck : Nat}
/-- both kinds of argument: an item's number, or not -/
theorem arg_item (nB nT : Nat) (v : Int32) : (∃ i, isIt nB nT i ∧ v = nI i) ∨ ¬ ∃ i, isIt nB nT i ∧ v = nI i := Classical.em _
theorem x_may_yes (hE : EOk E) (hL : 6 ≤ L) (C : CurV h 1 3 0 nB nT tv pk lv sn ck) {i b : Nat} (hi : isIt nB nT i) (hb : b < nB) : RdI E L m_X_may 0 [.int (nI i), .int (nI b)] h (rfs pk lv tv nB i b) := by
  have h8 := C.1.2.2.2.1
  have h16 := C.1.2.2.2.2.1
  have hi24 : i < 24 := by rcases hi with q | q <;> omega
  refine B_X_may hE (by omega) ?_
  rw [nI_l (by omega), nI_l (by omega)]
  exact (hasItem_yes hE (by omega) C.1 hi).use (brF (by decide) ((hasBox_yes hE (by omega) C.1 hb).use (brF' (by decide) ((ly_whyNotPut hE (by omega) C.2.1 C.1 hi24 (by omega)).use ⟨rfl, rfl⟩))))
theorem x_may_no (hE : EOk E) (hL : 6 ≤ L) (C : CurV h 1 3 0 nB nT tv pk lv sn ck) {v w : Int32} (hn : ¬ ∃ i b, isIt nB nT i ∧ b < nB ∧ v = nI i ∧ w = nI b) : RdI E L m_X_may 0 [.int v, .int w] h (-2) := by
  have h8 := C.1.2.2.2.1
  have h16 := C.1.2.2.2.2.1
  refine B_X_may hE (by omega) ?_
  by_cases hv : ∃ i, isIt nB nT i ∧ v = nI i
  · obtain ⟨i, hi, rfl⟩ := hv
    rw [nI_l (show i < 2147483648 by rcases hi with q | q <;> omega)]
    exact (hasItem_yes hE (by omega) C.1 hi).use (brF (by decide) ((hasBox_no hE (by omega) C.1 (noBox h8 (fun z => hn (by obtain ⟨b, z1, z2⟩ := z; exact ⟨i, b, hi, z1, rfl, z2⟩)))).use (brT' rfl ⟨rfl, rfl⟩)))
  · exact (hasItem_no hE (by omega) C.1 (noItem h8 h16 hv)).use (brT rfl ⟨rfl, rfl⟩)
theorem eq_may (hE : EOk E) (hL : 20 ≤ L) (I : Inv h K) (hK : K + 60 ≤ 100000) (v w : Int32) : Same E L m_X_may m_M_may [.int v, .int w] h K := by
  obtain ⟨nB, nT, tv, pk, lv, sn, ck, hck, C⟩ := I.2.1
  have h8 := C.1.2.2.2.1
  have h16 := C.1.2.2.2.2.1
  by_cases hv : ∃ i b, isIt nB nT i ∧ b < nB ∧ v = nI i ∧ w = nI b
  · obtain ⟨i, b, hi, hb, rfl, rfl⟩ := hv
    have hi24 : i < 24 := by rcases hi with q | q <;> omega
    refine same_rd I hK (RdX.of I.2.2.2.2.2.2 (x_may_yes hE (by omega) C hi hb)) (fun h1 e I1 => ?_)
    have C1 := C.keep e
    refine B_M_may hE (by omega) ?_
    rw [nI_l (by omega), nI_l (by omega)]
    exact (m_isItem_yes (h := sI h1 74 0 0) hE (by omega) C1.2.2.1 hi).use (brF (by decide) ((m_isBox_yes (h := sI h1 74 0 0) hE (by omega) C1.2.2.1 hb).use (brF (by decide) ((m_refuses (h := sI h1 74 0 0) hE (by omega) C1.2.2.1 C.2.2.2.1 C.2.2.2.2.1 hi hb).use ⟨rfl, thr_eq _, I1.2.2.2.2.2.2⟩))))
  · refine same_rd I hK (RdX.of I.2.2.2.2.2.2 (x_may_no hE (by omega) C hv)) (fun h1 e I1 => ?_)
    have C1 := C.keep e
    refine B_M_may hE (by omega) ?_
    by_cases hv2 : ∃ i, isIt nB nT i ∧ v = nI i
    · obtain ⟨i, hi, rfl⟩ := hv2
      rw [nI_l (show i < 2147483648 by rcases hi with q | q <;> omega)]
      exact (m_isItem_yes (h := sI h1 74 0 0) hE (by omega) C1.2.2.1 hi).use (brF (by decide) ((m_isBox_no (h := sI h1 74 0 0) hE (by omega) C1.2.2.1 (noBox h8 (fun z => hv (by obtain ⟨b, z1, z2⟩ := z; exact ⟨i, b, hi, z1, rfl, z2⟩)))).use (brT rfl ⟨rfl, thr_eq _, I1.2.2.2.2.2.2⟩)))
    · exact (m_isItem_no (h := sI h1 74 0 0) hE (by omega) C1.2.2.1 (noItem h8 h16 hv2)).use (brT rfl ⟨rfl, thr_eq _, I1.2.2.2.2.2.2⟩)
theorem rfs_0 {i b : Nat} (hq : rfs pk lv tv nB i b = 0) : pk i = 0 ∧ i ≠ b ∧ wi pk (i + 1) 8 (b + 1) = false ∧ lft pk lv (bO 0) 9 (b + 1) = 0 := by
  unfold rfs at hq
  by_cases c1 : pk i ≠ 0
  · rw [if_pos c1] at hq; exact absurd hq (by decide)
  rw [if_neg c1] at hq
  by_cases c2 : 0 < lft pk lv (bO 0) 9 (b + 1)
  · rw [if_pos c2] at hq; exact absurd hq (by decide)
  rw [if_neg c2] at hq
  by_cases c3 : i = b
  · rw [if_pos c3] at hq; exact absurd hq (by decide)
  rw [if_neg c3] at hq
  by_cases c4 : wi pk (i + 1) 8 (b + 1) = true
  · rw [if_pos c4] at hq; exact absurd hq (by decide)
  exact ⟨by omega, c3, by simpa using c4, by omega⟩
theorem cnt_put {i b : Nat} (hi : i < 24) (h0 : pk i = 0) : cnt (upN pk i (b + 1)) (b + 1) = cnt pk (b + 1) + 1 := by
  have h1 : sE (fun k => if k = i then 1 else (if pk k = b + 1 then 1 else 0)) 24 + (if pk i = b + 1 then 1 else 0) = cnt pk (b + 1) + 1 := sE_upd (fun k => if pk k = b + 1 then 1 else 0) 1 hi
  have h2 : ¬ pk i = b + 1 := by omega
  rw [if_neg h2, Nat.add_zero] at h1
  have h3 : cnt (upN pk i (b + 1)) (b + 1) = sE (fun k => if k = i then 1 else (if pk k = b + 1 then 1 else 0)) 24 := by
    unfold cnt
    refine sE_cong (n := 24) (fun k hk => ?_)
    by_cases e : k = i
    · rw [e, upN_same, if_pos rfl, if_pos rfl]
    · rw [upN_ne e, if_neg e]
  exact h3.trans h1
def FrM (h h' : Hp) : Prop := EqO (fun q => q = 74 ∨ q = 75) h h' ∧ EqT h h'
theorem FrM.rfl' : FrM h h := ⟨EqO.rfl', EqT.rfl'⟩
theorem FrM.trans {h1 h2 : Hp} (a : FrM h h1) (b : FrM h1 h2) : FrM h h2 := ⟨a.1.trans b.1, a.2.trans b.2⟩
theorem FrM.thr : FrM h (sI h 74 0 0) := ⟨EqO.sI (Or.inl rfl), (thr_eq h).t⟩
theorem FrM.s75 {k : Nat} {v : Int32} (hk : k < 220) : FrM h (sA h 75 k v) := ⟨EqO.sA (Or.inr rfl), EqT.s75 hk⟩
theorem FrM.c3 {i b : Nat} (hi : i < 24) : FrM h (sC3 h i b ck) := ((FrM.s75 (by omega)).trans (FrM.s75 (by omega))).trans (FrM.s75 (by omega))
theorem inv_move {h1 h2 : Hp} {K' : Nat} {pk' lv' sn' : Nat → Nat} {ck' : Nat} (I : Inv h K) (S : StV h 1 nB nT tv) (hB : tvB nB nT tv) (e1 : EqO (fun q => q = 4 ∨ q = 5) h h1) (f : FrM h1 h2) (Y1 : LyV h1 3 pk' lv') (M2 : MdV h2 nB nT tv pk' sn' ck') (hA : acy pk') (hO : OrdV pk' lv' sn' ck') (hc : ck' ≤ K') (hk1 : K ≤ K') (hk2 : K' ≤ 100000) : Inv h2 K' := by
  have t1 : EqT h h1 := EqT.of e1 (fun p hp => (show ∀ p ∈ perF2, ¬ (p.1 = 4 ∨ p.1 = 5) by decide) p hp) (fun p hp => (show ∀ p ∈ perA2, ¬ (p = 4 ∨ p = 5) by decide) p hp) (by omega)
  refine I.move (t1.trans f.2) ⟨nB, nT, tv, pk', lv', sn', ck', hc, ?_, Y1.keep f.1 (by omega) (by omega), M2, hA, hO, hB⟩ (PickZ_eq I.2.2.2.2.2.2 (fun a h1 h2 => ?_)) hk1 hk2
  · exact (S.keep e1 (by omega) (by omega)).keep f.1 (by omega) (by omega)
  · rw [(f.1 a (by omega)).2.1, (e1 a (by omega)).2.1]
theorem eq_put (hE : EOk E) (hL : 20 ≤ L) (I : Inv h K) (hK : K + 60 ≤ 100000) (v w : Int32) : Same E L m_X_put m_M_put [.int v, .int w] h K := by
  obtain ⟨nB, nT, tv, pk, lv, sn, ck, hck, C⟩ := I.2.1
  have h8 := C.1.2.2.2.1
  have h16 := C.1.2.2.2.2.1
  by_cases hv : ∃ i b, isIt nB nT i ∧ b < nB ∧ v = nI i ∧ w = nI b
  · obtain ⟨i, b, hi, hb, rfl, rfl⟩ := hv
    have hi24 : i < 24 := by rcases hi with q | q <;> omega
    by_cases hq : rfs pk lv tv nB i b = 0
    · have l1 := ly_lay hE (L := L - 1) (by omega) C.2.1 (i := i) (c := b + 1) hi24 (by omega)
      rw [bx_S] at l1
      obtain ⟨q1, q2, q3, -⟩ := rfs_0 hq
      refine B_X_put hE (by omega) ((x_may_yes hE (by omega) C hi hb).use (brT hq (l1.mono (fun h1 q => ?_))))
      obtain ⟨e1, Y1⟩ := q
      have m1 := ly_manyIn hE (L := L - 1) (by omega) Y1 (c := b + 1) (by omega)
      rw [bx_S] at m1
      refine m1.use ?_
      have M1 : MdV h1 nB nT tv pk sn ck := MsV_eq C.2.2.1 (e1 75 (by omega)).2.1
      have M2 := sC3_MsV (h := sI h1 74 0 0) M1 (by omega) hi hb
      have m2 := m_manyIn hE (L := L - 1) (by omega) M2 (c := b + 1) (by omega) (by omega)
      rw [bx_S] at m2
      refine B_M_put hE (by omega) ?_
      rw [nI_l (by omega), nI_l (by omega)]
      refine (m_isItem_yes (h := sI h1 74 0 0) hE (by omega) M1 hi).use (brF (by decide) ((m_isBox_yes (h := sI h1 74 0 0) hE (by omega) M1 hb).use (brF' (by decide) ((m_refuses (h := sI h1 74 0 0) hE (by omega) M1 C.2.2.2.1 C.2.2.2.2.1 hi hb).use (brT hq ((m_comes (h := sI h1 74 0 0) hE (by omega) M1 hi24 (by omega)).use (m2.use ⟨rfl, ?_⟩)))))))
      exact inv_move I C.1 C.2.2.2.2.2 e1 (FrM.thr.trans (FrM.c3 hi24)) Y1 M2 (acy_put C.2.2.2.1 (fun i hi => C.2.2.1.pk8 hi) (by omega) q2 q3) (OrdV_put C.2.2.2.2.1 q1) (by omega) (by omega) hK
    · refine same_rd (x := rfs pk lv tv nB i b) I hK (RdX.of I.2.2.2.2.2.2 (B_X_put hE (by omega) ((x_may_yes hE (by omega) C hi hb).use (brF hq ⟨rfl, rfl⟩)))) (fun h1 e I1 => ?_)
      have C1 := C.keep e
      refine B_M_put hE (by omega) ?_
      rw [nI_l (by omega), nI_l (by omega)]
      exact (m_isItem_yes (h := sI h1 74 0 0) hE (by omega) C1.2.2.1 hi).use (brF (by decide) ((m_isBox_yes (h := sI h1 74 0 0) hE (by omega) C1.2.2.1 hb).use (brF' (by decide) ((m_refuses (h := sI h1 74 0 0) hE (by omega) C1.2.2.1 C.2.2.2.1 C.2.2.2.2.1 hi hb).use (brF hq ⟨rfl, thr_eq _, I1.2.2.2.2.2.2⟩)))))
  · refine same_rd (x := -2) I hK (RdX.of I.2.2.2.2.2.2 (B_X_put hE (by omega) ((x_may_no hE (by omega) C hv).use (brF (by decide) ⟨rfl, rfl⟩)))) (fun h1 e I1 => ?_)
    have C1 := C.keep e
    refine B_M_put hE (by omega) ?_
    by_cases hv2 : ∃ i, isIt nB nT i ∧ v = nI i
    · obtain ⟨i, hi, rfl⟩ := hv2
      rw [nI_l (show i < 2147483648 by rcases hi with q | q <;> omega)]
      exact (m_isItem_yes (h := sI h1 74 0 0) hE (by omega) C1.2.2.1 hi).use (brF (by decide) ((m_isBox_no (h := sI h1 74 0 0) hE (by omega) C1.2.2.1 (noBox h8 (fun z => hv (by obtain ⟨b, z1, z2⟩ := z; exact ⟨i, b, hi, z1, rfl, z2⟩)))).use (brT' rfl ⟨rfl, thr_eq _, I1.2.2.2.2.2.2⟩)))
    · exact (m_isItem_no (h := sI h1 74 0 0) hE (by omega) C1.2.2.1 (noItem h8 h16 hv2)).use (brT rfl ⟨rfl, thr_eq _, I1.2.2.2.2.2.2⟩)
theorem eq_take (hE : EOk E) (hL : 20 ≤ L) (I : Inv h K) (hK : K + 60 ≤ 100000) (v : Int32) : Same E L m_X_take m_M_take [.int v] h K := by
  obtain ⟨nB, nT, tv, pk, lv, sn, ck, hck, C⟩ := I.2.1
  have h8 := C.1.2.2.2.1
  have h16 := C.1.2.2.2.2.1
  by_cases hv : ∃ i, isIt nB nT i ∧ v = nI i
  · obtain ⟨i, hi, rfl⟩ := hv
    have hi24 : i < 24 := by rcases hi with q | q <;> omega
    have w1 := ly_whyNotTaken hE (L := L - 1) (by omega) C.2.1 hi24
    by_cases hq : pk i = 0 ∨ 0 < lft pk lv (bO 0) 9 (i + 1)
    · rw [if_pos hq] at w1
      refine same_rd (x := -5) I hK (RdX.of I.2.2.2.2.2.2 (B_X_take hE (by omega) ?_)) (fun h1 e I1 => ?_)
      · rw [nI_l (by omega)]
        exact (hasItem_yes hE (by omega) C.1 hi).use (brF' (by decide) (w1.use (brF (by decide) ⟨rfl, rfl⟩)))
      · have C1 := C.keep e
        have t1 := m_canBeTaken (h := sI h1 74 0 0) hE (L := L - 1) (by omega) C1.2.2.1 C.2.2.2.1 C.2.2.2.2.1 hi24
        rw [if_pos hq] at t1
        refine B_M_take hE (by omega) ?_
        rw [nI_l (by omega)]
        exact (m_isItem_yes (h := sI h1 74 0 0) hE (by omega) C1.2.2.1 hi).use (brF' (by decide) (t1.use (brT' rfl ⟨rfl, thr_eq _, I1.2.2.2.2.2.2⟩)))
    · rw [if_neg hq] at w1
      have b1 := ly_boxOf hE (L := L - 1) (by omega) C.2.1 (c := i + 1) (by omega)
      rw [bx_S, nx_S] at b1
      refine B_X_take hE (by omega) ?_
      rw [nI_l (by omega)]
      refine (hasItem_yes hE (by omega) C.1 hi).use (brF' (by decide) (w1.use (brT rfl (b1.use ((ly_lift hE (by omega) C.2.1 hi24).mono (fun h1 q => ?_))))))
      obtain ⟨e1, Y1⟩ := q
      have M1 : MdV h1 nB nT tv pk sn ck := MsV_eq C.2.2.1 (e1 75 (by omega)).2.1
      have t1 := m_canBeTaken (h := sI h1 74 0 0) hE (L := L - 1) (by omega) M1 C.2.2.2.1 C.2.2.2.2.1 hi24
      rw [if_neg hq] at t1
      refine B_M_take hE (by omega) ?_
      rw [nI_l (by omega)]
      refine (m_isItem_yes (h := sI h1 74 0 0) hE (by omega) M1 hi).use (brF' (by decide) (t1.use (brF' (by decide) ((m_around (h := sI h1 74 0 0) hE (by omega) M1 hi24).use ?_))))
      rw [show (171 : Int32) = nI 171 from rfl, nI_add, nIc (by omega)]
      refine ⟨in75 (by omega), rfl, ?_⟩
      exact inv_move I C.1 C.2.2.2.2.2 (e1.wk (fun q z => Or.inl z)) (FrM.thr.trans (FrM.s75 (by omega))) Y1 (sT_MsV (h := sI h1 74 0 0) M1 hi24) (acy_take C.2.2.2.1 i) (OrdV_take C.2.2.2.2.1 hi24 (fun z => lft_top hi24 z (by omega))) (by omega) (by omega) hK
  · refine same_rd (x := -2) I hK (RdX.of I.2.2.2.2.2.2 (B_X_take hE (by omega) ((hasItem_no hE (by omega) C.1 (noItem h8 h16 hv)).use (brT' rfl ⟨rfl, rfl⟩)))) (fun h1 e I1 => ?_)
    exact B_M_take hE (by omega) ((m_isItem_no (h := sI h1 74 0 0) hE (by omega) (C.keep e).2.2.1 (noItem h8 h16 hv)).use (brT' rfl ⟨rfl, thr_eq _, I1.2.2.2.2.2.2⟩))
theorem packed_eq (pk : Nat → Nat) : 24 - cnt pk 0 = sE (fun i => if pk i = 0 then 0 else 1) 24 := by
  have h1 : sE (fun i => (if pk i = 0 then 1 else 0) + (if pk i = 0 then 0 else 1)) 24 = sE (fun _ => 1) 24 := sE_cong (n := 24) (fun k _ => by split <;> rfl)
  rw [sE_add] at h1
  have h2 : sE (fun _ => 1) 24 = 24 := by decide
  rw [h2] at h1
  unfold cnt
  omega
theorem m_clear (hE : EOk E) (hL : 1 ≤ L) (M : MdV h nB nT tv pk sn ck) {post : Int32 → Hp → Prop} {v : Int32} (H : ∀ h2, FrM h h2 → MdV h2 nB nT tv (fun _ => 0) sn ck → post v h2) : at_M_empty_12 E L h post v 0 := by
  have key : ∀ n k, n + k = 24 → ∀ h2, FrM h h2 → MdV h2 nB nT tv (fun j => if j < k then 0 else pk j) sn ck → at_M_empty_12 E L h2 post v (nI k) := by
    intro n
    induction n with
    | zero =>
      intro k hk h2 f M2
      rw [show k = 24 by omega] at M2 ⊢
      refine B_M_empty_12 (brT (nEnd 24) (H h2 f ?_))
      obtain ⟨m0, m1, m2, m3, m4, m5⟩ := M2
      exact ⟨m0, m1, m2, fun i hi => by have := m3 i hi; simp only [if_pos hi] at this; exact this, m4, fun _ _ _ => rfl⟩
    | succ n ih =>
      intro k hk h2 f M2
      refine B_M_empty_12 (brF (nG 24 (by omega)) ?_)
      rw [show (171 : Int32) = nI 171 from rfl, nI_add, nIc (by omega), nI_1]
      refine ⟨in75 (by omega), ih (k + 1) (by omega) _ (f.trans (FrM.s75 (by omega))) ?_⟩
      have e : (fun j => if j < k + 1 then 0 else pk j) = upN (fun j => if j < k then 0 else pk j) k 0 := funext (fun j => by
        unfold upN
        by_cases a : j = k
        · rw [if_pos a, if_pos (by omega)]
        · rw [if_neg a]
          show (if j < k + 1 then 0 else pk j) = if j < k then 0 else pk j
          by_cases b : j < k
          · rw [if_pos b, if_pos (by omega)]
          · rw [if_neg b, if_neg (by omega)])
      rw [e]
      exact sT_MsV M2 (by omega)
  refine key 24 0 (by omega) h FrM.rfl' ?_
  have e : (fun j => if j < 0 then 0 else pk j) = pk := funext (fun j => if_neg (Nat.not_lt_zero j))
  rw [e]; exact M
theorem eq_empty (hE : EOk E) (hL : 20 ≤ L) (I : Inv h K) (hK : K + 60 ≤ 100000) : Same E L m_X_empty m_M_empty [] h K := by
  obtain ⟨nB, nT, tv, pk, lv, sn, ck, hck, C⟩ := I.2.1
  refine B_X_empty hE (by omega) ((ly_manyPacked hE (by omega) C.2.1).use ((ly_clear hE (by omega) C.2.1.1).mono (fun h1 q => ?_)))
  obtain ⟨e1, Y1⟩ := q
  have M1 : MdV h1 nB nT tv pk sn ck := MsV_eq C.2.2.1 (e1 75 (by omega)).2.1
  refine B_M_empty hE (by omega) ((m_itemsIn (h := sI h1 74 0 0) hE (by omega) M1).use ?_)
  refine m_clear (h := sI h1 74 0 0) hE (by omega) M1 (fun h2 f M2 => ⟨by rw [packed_eq], ?_⟩)
  exact inv_move I C.1 C.2.2.2.2.2 e1 (FrM.thr.trans f) Y1 M2 acy_none (OrdV_none C.2.2.2.2.1.2.1) (by omega) (by omega) hK
end Pub2
