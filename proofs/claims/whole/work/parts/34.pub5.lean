section Pub5
variable {E : EnvX} {L : Nat} {h : Hp} {K : Nat} {nB nT : Nat} {tv : Nat → Nat → Nat} {pk lv sn : Nat → Nat} {ck : Nat}
theorem dpt_fuel (pk : Nat → Nat) : ∀ (n c m : Nat), itn pk n c = 0 → n ≤ m → dpt pk m c = dpt pk n c
  | 0, c, m, hz, _ => by
    have hc : c = 0 := hz
    subst hc
    cases m with
    | zero => rfl
    | succ m => simp only [dpt]; rw [if_pos (show nx pk 0 = 0 from rfl)]
  | n + 1, c, m, hz, hm => by
    obtain ⟨m', rfl⟩ : ∃ m', m = m' + 1 := ⟨m - 1, by omega⟩
    simp only [dpt]
    by_cases q : nx pk c = 0
    · rw [if_pos q, if_pos q]
    · rw [if_neg q, if_neg q, dpt_fuel pk n (nx pk c) m' hz (by omega)]
theorem dpt_rec (hA : acy pk) {c : Nat} (hc : c ≤ 24) : dpt pk 9 c = if nx pk c = 0 then 0 else 1 + dpt pk 9 (nx pk c) := by
  have hz : itn pk 8 (nx pk c) = 0 := hA c hc
  rw [dpt_fuel pk 8 (nx pk c) 9 hz (by omega)]
  rfl
theorem dpt_at (hA : acy pk) (hp : ∀ i, i < 24 → pk i ≤ 8) {c : Nat} (hc : c ≤ 24) : ∀ t, t ≤ dpt pk 9 c → dpt pk 9 (itn pk t c) = dpt pk 9 c - t
  | 0, _ => rfl
  | t + 1, ht => by
    have ih := dpt_at hA hp hc t (by omega)
    rw [itn_end]
    rw [dpt_rec hA (itn_l24 hp hc t)] at ih
    by_cases q : nx pk (itn pk t c) = 0
    · rw [if_pos q] at ih; omega
    · rw [if_neg q] at ih; omega
theorem nx_at (hA : acy pk) (hp : ∀ i, i < 24 → pk i ≤ 8) {c : Nat} (hc : c ≤ 24) {t : Nat} (ht : t < dpt pk 9 c) : nx pk (itn pk t c) ≠ 0 := by
  have h1 := dpt_at hA hp hc t (by omega)
  rw [dpt_rec hA (itn_l24 hp hc t)] at h1
  intro q
  rw [if_pos q] at h1
  omega
theorem mAb_eq (hO : OrdV pk lv sn ck) {j : Nat} (hj : j < 24) (h0 : pk j ≠ 0) : mAb pk lv (bO 0) (j + 1) + lv j + 1 = cnt pk (pk j) := by
  have hl := hO.1 j hj h0
  have e1 : sE (fun k => if j = k then 1 else 0) 24 = 1 := by rw [sE_one, if_pos hj]
  have e0 : mAb pk lv (bO 0) (j + 1) = sE (fun k => if pk k = pk j ∧ lv j < lv k ∧ bO 0 k = false then 1 else 0) 24 := by
    unfold mAb; rw [nx_S, if_neg h0, Nat.add_sub_cancel]
  suffices e2 : sE (fun k => (if pk k = pk j ∧ lv j < lv k ∧ bO 0 k = false then 1 else 0) + (if pk k = pk j ∧ sn k < sn j then 1 else 0) + (if j = k then 1 else 0)) 24 = cnt pk (pk j) by
    rw [sE_add (fun k => (if pk k = pk j ∧ lv j < lv k ∧ bO 0 k = false then 1 else 0) + (if pk k = pk j ∧ sn k < sn j then 1 else 0)) (fun k => if j = k then 1 else 0), sE_add, e1, ← e0] at e2
    rw [← e2, hl]
    rfl
  unfold cnt
  refine sE_cong (n := 24) (fun k hk => ?_)
  by_cases q : pk k = pk j
  · have hk0 : pk k ≠ 0 := by rw [q]; exact h0
    have a1 := rk_lt (pk := pk) (sn := sn) (i := j) (j := k) hj q.symm
    rw [← hl, ← hO.1 k hk hk0] at a1
    rw [if_pos q]
    by_cases e : j = k
    · subst e
      rw [if_neg (fun z => Nat.lt_irrefl _ z.2.1), if_neg (fun z => Nat.lt_irrefl _ z.2), if_pos rfl]
    · have ne : sn j ≠ sn k := fun z => e (hO.2.2 j k hj hk h0 q.symm z)
      rw [if_neg e]
      by_cases d : sn j < sn k
      · rw [if_pos ⟨q, a1.mpr d, bO_0 (by omega)⟩, if_neg (fun z => by omega)]
      · rw [if_neg (fun z => d (a1.mp z.2.1)), if_pos ⟨q, by omega⟩]
  · rw [if_neg (fun z => q z.1), if_neg (fun z => q z.1), if_neg (fun z => q (by rw [z])), if_neg q]
theorem bx_pos {n : Nat} (hn : 0 < n) : bx n = nI (n - 1) := by
  cases n with
  | zero => exact absurd hn (Nat.lt_irrefl 0)
  | succ n => exact bx_S n
theorem m_overAt (hE : EOk E) (hL : 10 ≤ L) (M : MdV h nB nT tv pk sn ck) (hA : acy pk) (hO : OrdV pk lv sn ck) {i : Nat} (hi : i < 24) {post : Int32 → Hp → Prop} : ∀ s l, s ≤ dpt pk 9 (i + 1) → l < 2147483648 → post (bx (ovF pk lv (i + 1) s l)) h → at_M_over_22 E L h post (nI i) (nI l) (nI (dpt pk 9 (i + 1) - s)) := by
  have hp : ∀ i, i < 24 → pk i ≤ 8 := fun i hi => M.pk8 hi
  have hd9 : dpt pk 9 (i + 1) < 100 := by
    have : ∀ n c, dpt pk n c ≤ n := by
      intro n
      induction n with
      | zero => intro c; exact Nat.le_refl _
      | succ n ih => intro c; simp only [dpt]; have := ih (nx pk c); split <;> omega
    have := this 9 (i + 1); omega
  intro s
  induction s with
  | zero =>
    intro l _ hl H
    refine B_M_over_22 ((m_depthOf hE (by omega) M hA hi).use (brT (nI_le (by omega) (by omega)) H))
  | succ s ih =>
    intro l hs hl H
    refine B_M_over_22 ((m_depthOf hE (by omega) M hA hi).use (brF (nI_ge (by omega) (by omega)) (brF (nIneg hl) ?_)))
    -- outward to the box around
    have hc24 : i + 1 ≤ 24 := by omega
    have walk : ∀ m t, t + m = s → at_M_over_39 E L h post (nI i) (nI l) (nI (dpt pk 9 (i + 1) - (s + 1))) (bx (itn pk t (i + 1))) := by
      intro m
      induction m with
      | zero =>
        intro t ht
        have et : t = s := by omega
        subst et
        have d1 := dpt_at hA hp hc24 t (by omega)
        have n1 := nx_at hA hp hc24 (t := t) (by omega)
        have l24 := itn_l24 hp hc24 t
        obtain ⟨j, hj⟩ : ∃ j, itn pk t (i + 1) = j + 1 := ⟨itn pk t (i + 1) - 1, by
          have : itn pk t (i + 1) ≠ 0 := fun z => n1 (by rw [z]; rfl)
          omega⟩
        rw [ovF, hj, nx_S] at H
        rw [hj] at d1 n1 l24
        rw [nx_S] at n1
        rw [hj, bx_S]
        have hj24 : j < 24 := by omega
        have hpj := hp j hj24
        have hN := cnt_le pk (pk j)
        have hab := mAb_eq hO hj24 n1
        have y2 := m_manyIn hE (L := L - 1) (by omega) M (c := pk j) (by omega) n1
        refine B_M_over_39 ((m_depthOf hE (by omega) M hA hj24).use ?_)
        rw [d1, nI_1, nIl (by omega) (by omega)]
        refine brT (by omega) ((m_around hE (by omega) M hj24).use (y2.use ?_))
        -- down the levels
        have step : ∀ n, n < cnt pk (pk j) → ∀ (l' : Nat), l' < 2147483648 → ((lv j < n → (¬ l' = 0 → at_M_over_81 E L h post (nI i) (nI (l' - 1)) (nI (dpt pk 9 (i + 1) - (t + 1))) (nI j) (bx (pk j)) (bx n)) ∧ (l' = 0 → post (bx (atL pk lv (pk j) n)) h)) ∧ (¬ lv j < n → at_M_over_81 E L h post (nI i) (nI l') (nI (dpt pk 9 (i + 1) - (t + 1))) (nI j) (bx (pk j)) (bx n))) → at_M_over_81 E L h post (nI i) (nI l') (nI (dpt pk 9 (i + 1) - (t + 1))) (nI j) (bx (pk j)) (bx (n + 1)) := by
          intro n hn l' hl' Q
          obtain ⟨k, hk, q1, q2, q3⟩ := atL_yes hO n1 hn
          have s1 := M.2.2.2.2.1 j hj24
          have s2 := M.2.2.2.2.1 k hk
          rw [Nat.zero_add] at s1 s2
          have b1 := m_inBox hE (L := L - 1) (by omega) M hO (c := pk j) (l := n) (by omega) n1 (by omega)
          rw [q1] at b1 Q
          rw [bx_S] at b1 Q
          have a1 := rk_lt (pk := pk) (sn := sn) (i := j) (j := k) hj24 q2.symm
          rw [← hO.1 j hj24 n1, ← hO.1 k hk (by rw [q2]; exact n1), q3] at a1
          rw [bx_S]
          refine B_M_over_81 (brF (nIneg (by omega)) (b1.use ?_))
          rw [show (195 : Int32) = nI 195 from rfl, nI_add, nI_add, nIc (by omega), nIc (by omega), s1.1, s2.1, nIt (by omega) (by omega), ← a1, nI_z hl', bx_p n, bx_p l']
          refine ⟨in75 (by omega), in75 (by omega), fun c1 => ⟨fun c2 => ?_, fun c2 => (Q.1 c1).2 c2⟩, fun c1 => Q.2 c1⟩
          rw [bx_pos (show 0 < l' by omega)]
          exact (Q.1 c1).1 c2
        have below : ∀ n, n ≤ lv j + 1 → ∀ l', l' < 2147483648 → at_M_over_22 E L h post (nI i) (nI l') (nI (dpt pk 9 (i + 1) - t)) → at_M_over_81 E L h post (nI i) (nI l') (nI (dpt pk 9 (i + 1) - (t + 1))) (nI j) (bx (pk j)) (bx n) := by
          intro n
          induction n with
          | zero =>
            intro _ l' hl' Q
            refine B_M_over_81 (brT bxneg0 ?_)
            rw [nI_1, show dpt pk 9 (i + 1) - (t + 1) + 1 = dpt pk 9 (i + 1) - t by omega]
            exact Q
          | succ n ih2 =>
            intro hn l' hl' Q
            exact step n (by omega) l' hl' ⟨fun c => by omega, fun _ => ih2 (by omega) l' hl' Q⟩
        have above : ∀ m n l', n + m = cnt pk (pk j) → lv j + 1 ≤ n → l' + m = l → at_M_over_81 E L h post (nI i) (nI l') (nI (dpt pk 9 (i + 1) - (t + 1))) (nI j) (bx (pk j)) (bx n) := by
          intro m n
          induction n generalizing m with
          | zero => intro l' _ q; omega
          | succ n ih2 =>
            intro l' e1 e2 e3
            rcases Nat.eq_or_lt_of_le e2 with q | q
            · refine below (n + 1) (by omega) l' (by omega) ?_
              rw [if_neg (by omega)] at H
              have e4 : l - mAb pk lv (bO 0) (j + 1) = l' := by omega
              rw [e4] at H
              exact ih l' (by omega) (by omega) H
            · refine step n (by omega) l' (by omega) ⟨fun _ => ⟨fun c2 => ih2 (m + 1) (l' - 1) (by omega) (by omega) (by omega), fun c2 => ?_⟩, fun c => by omega⟩
              rw [if_pos (by omega)] at H
              rw [show cnt pk (pk j) - 1 - l = n by omega] at H
              exact H
        exact above 0 (cnt pk (pk j)) l rfl (by have := lvl_lt hO hj24 n1; omega) rfl
      | succ m ihm =>
        intro t ht
        have d1 := dpt_at hA hp hc24 t (by omega)
        have n1 := nx_at hA hp hc24 (t := t) (by omega)
        have l24 := itn_l24 hp hc24 t
        have en := itn_end pk t (i + 1)
        obtain ⟨j, hj⟩ : ∃ j, itn pk t (i + 1) = j + 1 := ⟨itn pk t (i + 1) - 1, by
          have : itn pk t (i + 1) ≠ 0 := fun z => n1 (by rw [z]; rfl)
          omega⟩
        rw [hj] at d1 n1 l24 en
        rw [nx_S] at n1 en
        have w := ihm (t + 1) (by omega)
        rw [en] at w
        rw [hj, bx_S]
        have hj24 : j < 24 := by omega
        refine B_M_over_39 ((m_depthOf hE (by omega) M hA hj24).use ?_)
        rw [d1, nI_1, nIl (by omega) (by omega)]
        exact brF (by omega) ((m_around hE (by omega) M hj24).use w)
    have w0 := walk s 0 (by omega)
    rw [show itn pk 0 (i + 1) = i + 1 from rfl, bx_S] at w0
    exact w0
theorem eq_over (hE : EOk E) (hL : 20 ≤ L) (I : Inv h K) (hK : K + 60 ≤ 100000) (v w : Int32) : Same E L m_X_over m_M_over [.int v, .int w] h K := by
  obtain ⟨nB, nT, tv, pk, lv, sn, ck, hck, C⟩ := I.2.1
  have S := C.1
  have Y := C.2.1
  have hA := C.2.2.2.1
  have hO := C.2.2.2.2.1
  have h8 := S.2.2.2.1
  have h16 := S.2.2.2.2.1
  by_cases hv : ∃ i, isIt nB nT i ∧ v = nI i
  · obtain ⟨i, hi, rfl⟩ := hv
    have hi24 : i < 24 := by rcases hi with q | q <;> omega
    by_cases hw : w < 0
    · refine same_rd (x := -1) I hK (RdX.of I.2.2.2.2.2.2 ?_) (fun h1 e I1 => ?_)
      · refine B_X_over hE (by omega) ?_
        rw [nI_l (by omega)]
        refine (hasItem_yes hE (by omega) S hi).use (brF' (by decide) ?_)
        have o1 : RdI E (L - 1) m_Layout_itemOver 3 [.int (nI i), .int w] h (-1) := B_Layout_itemOver hE (by omega) Y.1 (brF (fun z => by
          rw [i32_le] at z; rw [i32_lt] at hw; exact absurd hw (Int.not_lt.mpr z)) ⟨rfl, rfl⟩)
        exact o1.use ⟨rfl, rfl⟩
      · have M : MdV (sI h1 74 0 0) nB nT tv pk sn ck := (C.keep e).2.2.1
        refine B_M_over hE (by omega) ?_
        rw [nI_l (by omega)]
        refine (m_isItem_yes hE (by omega) M hi).use (brF' (by decide) (B_M_over_22 ((m_depthOf hE (by omega) M hA hi24).use ⟨fun _ => ⟨rfl, thr_eq _, I1.2.2.2.2.2.2⟩, fun _ => brT hw ⟨rfl, thr_eq _, I1.2.2.2.2.2.2⟩⟩)))
    · obtain ⟨k, hk, rfl⟩ := nI_of hw
      have o1 := ly_itemOver hE (L := L - 1) (by omega) Y (c := i + 1) (k := k) (by omega) hk
      rw [bx_S] at o1
      refine same_rd (x := bx (ovF pk lv (i + 1) (dpt pk 9 (i + 1)) k)) I hK (RdX.of I.2.2.2.2.2.2 ?_) (fun h1 e I1 => ?_)
      · refine B_X_over hE (by omega) ?_
        rw [nI_l (by omega)]
        exact (hasItem_yes hE (by omega) S hi).use (brF' (by decide) (o1.use ⟨rfl, rfl⟩))
      · have M : MdV (sI h1 74 0 0) nB nT tv pk sn ck := (C.keep e).2.2.1
        refine B_M_over hE (by omega) ?_
        rw [nI_l (by omega)]
        refine (m_isItem_yes hE (by omega) M hi).use (brF' (by decide) ?_)
        have o2 := m_overAt hE (L := L) (by omega) M hA hO hi24 (post := fun y h' => y = bx (ovF pk lv (i + 1) (dpt pk 9 (i + 1)) k) ∧ EqS h1 h' ∧ PickZ h') (dpt pk 9 (i + 1)) k (Nat.le_refl _) hk ⟨rfl, thr_eq _, I1.2.2.2.2.2.2⟩
        rw [Nat.sub_self] at o2
        exact o2
  · refine same_rd (x := -2) I hK (RdX.of I.2.2.2.2.2.2 ?_) (fun h1 e I1 => ?_)
    · exact B_X_over hE (by omega) ((hasItem_no hE (by omega) S (noItem h8 h16 hv)).use (brT' rfl ⟨rfl, rfl⟩))
    · exact B_M_over hE (by omega) ((m_isItem_no (h := sI h1 74 0 0) hE (by omega) (C.keep e).2.2.1 (noItem h8 h16 hv)).use (brT' rfl ⟨rfl, thr_eq _, I1.2.2.2.2.2.2⟩))
end Pub5
