section Pub3
variable {E : EnvX} {L : Nat} {h : Hp} {K : Nat} {nB nT : Nat} {tv : Nat → Nat → Nat} {pk lv sn : Nat → Nat} {ck : Nat}
theorem m_worthIn (hE : EOk E) (hL : 4 ≤ L) (M : MdV h nB nT tv pk sn ck) : RdI E L m_M_worthIn 74 [] h (nI (sE (fun i => if pk (8 + i) = 0 then 0 else tv (8 + i) 3) 16)) := by
  refine B_M_worthIn hE (by omega) ?_
  refine upto (P := fun k => at_M_worthIn_5 E L h _ (nI (sE (fun i => if pk (8 + i) = 0 then 0 else tv (8 + i) 3) k)) (nI (8 + k))) (n := 16) ?_ ?_ 0 (by omega)
  · exact B_M_worthIn_5 (brT (nEnd 24) ⟨rfl, rfl⟩)
  · intro k hk ih
    have hk24 : 8 + k < 24 := by omega
    have hp := M.pk8 hk24
    obtain ⟨x, hx, hxx⟩ := m_isItem hE (L := L - 1) (by omega) M hk24
    rw [sE_s _ k] at ih
    refine B_M_worthIn_5 (brF (nG 24 hk24) (hx.use ?_))
    rw [nI_1, addz]
    rcases hxx with ⟨rfl, q⟩ | ⟨rfl, q⟩
    · refine brF (by decide) ((m_around hE (by omega) M hk24).use ?_)
      rw [bx_m1 (by omega)]
      refine ⟨fun c => ?_, fun c => (m_of hE (by omega) M hk24 (k := 3) (by omega)).use ?_⟩
      · rw [if_pos c] at ih; exact ih
      · rw [if_neg c] at ih; rw [nI_add]; exact ih
    · rw [if_pos (M.2.2.2.2.2 _ hk24 q)] at ih
      exact brT rfl ih
/-! levels in a box: 0 .. many - 1, each once -/
theorem sE_swap (f : Nat → Nat → Nat) (N : Nat) : ∀ n, sE (fun i => sE (fun y => f i y) N) n = sE (fun y => sE (fun i => f i y) n) N
  | 0 => (sE_zero (n := N) (fun _ _ => rfl)).symm
  | n + 1 => by
    rw [sE_s, sE_swap f N n, ← sE_add]
    rfl
theorem sE_one (a : Nat) : ∀ N, sE (fun y => if a = y then 1 else 0) N = if a < N then 1 else 0
  | 0 => by rw [if_neg (Nat.not_lt_zero a)]; rfl
  | N + 1 => by
    rw [sE_s, sE_one a N]
    by_cases c : a < N
    · rw [if_pos c, if_neg (by omega), if_pos (by omega)]
    · by_cases d : a = N
      · rw [if_neg c, if_pos d, if_pos (by omega)]
      · rw [if_neg c, if_neg d, if_neg (by omega)]
theorem sE_le1 {f : Nat → Nat} (h1 : ∀ i, f i ≤ 1) : ∀ {n : Nat}, (∀ i j, i < n → j < n → f i ≠ 0 → f j ≠ 0 → i = j) → sE f n ≤ 1
  | 0, _ => Nat.zero_le _
  | n + 1, h => by
    rw [sE_s]
    by_cases c : f n = 0
    · rw [c]; exact sE_le1 h1 (fun i j hi hj => h i j (by omega) (by omega))
    · rw [sE_zero (n := n) (fun k hk => Classical.byContradiction fun z => by have := h k n (by omega) (by omega) z c; omega), Nat.zero_add]
      exact h1 n
theorem findF_ok (p : Nat → Bool) : ∀ n k, (findF p n k = 0 ∧ ∀ j, k ≤ j → j < k + n → p j = false) ∨ ∃ j, k ≤ j ∧ j < k + n ∧ p j = true ∧ findF p n k = j + 1
  | 0, k => Or.inl ⟨rfl, fun j h1 h2 => by omega⟩
  | n + 1, k => by
    by_cases c : p k = true
    · exact Or.inr ⟨k, Nat.le_refl _, by omega, c, by simp only [findF, if_pos c]⟩
    · have e : findF p (n + 1) k = findF p n (k + 1) := by simp only [findF, if_neg c]
      rw [e]
      rcases findF_ok p n (k + 1) with ⟨q1, q2⟩ | ⟨j, q1, q2, q3, q4⟩
      · refine Or.inl ⟨q1, fun j h1 h2 => ?_⟩
        by_cases d : j = k
        · rw [d]; simpa using c
        · exact q2 j (by omega) (by omega)
      · exact Or.inr ⟨j, by omega, by omega, q3, q4⟩
theorem atL_ok (pk lv : Nat → Nat) (c l : Nat) : (atL pk lv c l = 0 ∧ ∀ j, j < 24 → pk j = c → lv j ≠ l) ∨ ∃ j, j < 24 ∧ atL pk lv c l = j + 1 ∧ pk j = c ∧ lv j = l := by
  rcases findF_ok (fun i => decide (pk i = c ∧ lv i = l)) 24 0 with ⟨q1, q2⟩ | ⟨j, q1, q2, q3, q4⟩
  · refine Or.inl ⟨q1, fun j hj e1 e2 => ?_⟩
    have := q2 j (by omega) (by omega)
    rw [decide_eq_true (show pk j = c ∧ lv j = l from ⟨e1, e2⟩)] at this
    cases this
  · rw [decide_eq_true_eq] at q3
    exact Or.inr ⟨j, by omega, q4, q3.1, q3.2⟩
theorem lvl_lt (hO : OrdV pk lv sn ck) {j : Nat} (hj : j < 24) (h0 : pk j ≠ 0) : lv j < cnt pk (pk j) := by
  rw [hO.1 j hj h0]
  unfold rk cnt
  refine sE_str (i := j) (fun k _ => ?_) hj ?_
  · by_cases c : pk k = pk j
    · rw [if_pos c]; split <;> omega
    · rw [if_neg c, if_neg (fun z => c z.1)]; exact Nat.le_refl _
  · rw [if_neg (fun z => Nat.lt_irrefl _ z.2), if_pos rfl]; exact Nat.one_pos
theorem lv_inj (hO : OrdV pk lv sn ck) {i j : Nat} (hi : i < 24) (hj : j < 24) (h0 : pk i ≠ 0) (e : pk i = pk j) (el : lv i = lv j) : i = j := by
  have a1 := hO.1 i hi h0
  have a2 := hO.1 j hj (by rw [← e]; exact h0)
  have b1 := rk_lt (pk := pk) (sn := sn) (i := i) (j := j) hi e
  have b2 := rk_lt (pk := pk) (sn := sn) (i := j) (j := i) hj e.symm
  refine hO.2.2 i j hi hj h0 e ?_
  have c1 : ¬ sn i < sn j := fun z => by have := b1.mpr z; omega
  have c2 : ¬ sn j < sn i := fun z => by have := b2.mpr z; omega
  omega
theorem atL_yes (hO : OrdV pk lv sn ck) {c l : Nat} (h0 : c ≠ 0) (hl : l < cnt pk c) : ∃ j, j < 24 ∧ atL pk lv c l = j + 1 ∧ pk j = c ∧ lv j = l := by
  rcases atL_ok pk lv c l with ⟨-, q⟩ | q
  · exfalso
    have e1 : cnt pk c = sE (fun i => sE (fun y => if pk i = c then (if lv i = y then 1 else 0) else 0) (cnt pk c)) 24 := by
      refine sE_cong (n := 24) (fun k hk => ?_)
      by_cases d : pk k = c
      · simp only [if_pos d]
        rw [sE_one, if_pos (by have := lvl_lt hO hk (by rw [d]; exact h0); rw [d] at this; exact this)]
      · simp only [if_neg d]
        exact (sE_zero (n := cnt pk c) (fun _ _ => rfl)).symm
    rw [sE_swap] at e1
    have e2 : sE (fun y => sE (fun i => if pk i = c then (if lv i = y then 1 else 0) else 0) 24) (cnt pk c) < sE (fun _ => 1) (cnt pk c) := by
      refine sE_str (i := l) (fun y _ => ?_) hl ?_
      · refine sE_le1 (f := fun i => if pk i = c then (if lv i = y then 1 else 0) else 0) (fun i => ?_) (n := 24) (fun i j hi hj z1 z2 => ?_)
        · show (if pk i = c then (if lv i = y then 1 else 0) else 0) ≤ 1
          by_cases d : pk i = c
          · rw [if_pos d]; split <;> omega
          · rw [if_neg d]; omega
        replace z1 : (if pk i = c then (if lv i = y then 1 else 0) else 0) ≠ 0 := z1
        replace z2 : (if pk j = c then (if lv j = y then 1 else 0) else 0) ≠ 0 := z2
        have w1 : pk i = c ∧ lv i = y := by
          by_cases d : pk i = c
          · rw [if_pos d] at z1
            by_cases d2 : lv i = y
            · exact ⟨d, d2⟩
            · rw [if_neg d2] at z1; exact absurd rfl z1
          · rw [if_neg d] at z1; exact absurd rfl z1
        have w2 : pk j = c ∧ lv j = y := by
          by_cases d : pk j = c
          · rw [if_pos d] at z2
            by_cases d2 : lv j = y
            · exact ⟨d, d2⟩
            · rw [if_neg d2] at z2; exact absurd rfl z2
          · rw [if_neg d] at z2; exact absurd rfl z2
        exact lv_inj hO hi hj (by rw [w1.1]; exact h0) (by rw [w1.1, w2.1]) (by rw [w1.2, w2.2])
      · rw [sE_zero (n := 24) (fun k hk => ?_)]
        · exact Nat.one_pos
        · by_cases d : pk k = c
          · rw [if_pos d, if_neg (q k hk d)]
          · rw [if_neg d]
    have e3 : ∀ N, sE (fun _ => 1) N = N := fun N => by
      induction N with
      | zero => rfl
      | succ N ih => rw [sE_s, ih]
    rw [e3] at e2
    omega
  · exact q
theorem atL_no (hO : OrdV pk lv sn ck) {c l : Nat} (h0 : c ≠ 0) (hl : cnt pk c ≤ l) : atL pk lv c l = 0 := by
  rcases atL_ok pk lv c l with ⟨q, -⟩ | ⟨j, hj, -, q2, q3⟩
  · exact q
  · have := lvl_lt hO hj (by rw [q2]; exact h0)
    rw [q2] at this; omega
theorem eq_box (hE : EOk E) (hL : 20 ≤ L) (I : Inv h K) (hK : K + 60 ≤ 100000) (v w : Int32) : Same E L m_X_box m_M_box [.int v, .int w] h K := by
  obtain ⟨nB, nT, tv, pk, lv, sn, ck, hck, C⟩ := I.2.1
  have S := C.1
  have Y := C.2.1
  have hA := C.2.2.2.1
  have hO := C.2.2.2.2.1
  have h8 := S.2.2.2.1
  by_cases hv : ∃ b, b < nB ∧ v = nI b
  · obtain ⟨b, hb, rfl⟩ := hv
    have y1 := ly_fillOf hE (L := L - 1) (by omega) Y S (c := b + 1) (by omega)
    have y2 := ly_loadOf hE (L := L - 1) (by omega) Y S (c := b + 1) (by omega) (by omega)
    have y3 := ly_halvedOf hE (L := L - 1) (by omega) Y (c := b + 1) (by omega)
    have y4 := ly_manyIn hE (L := L - 1) (by omega) Y (c := b + 1) (by omega)
    rw [bx_S] at y1 y2 y3 y4
    have z1 := fun (h : Hp) (M : MdV h nB nT tv pk sn ck) => m_fillOf hE (L := L - 1) (by omega) M (c := b + 1) (by omega) (by omega)
    have z2 := fun (h : Hp) (M : MdV h nB nT tv pk sn ck) => m_loadOf hE (L := L - 1) (by omega) M hA (c := b + 1) (by omega) (by omega)
    have z4 := fun (h : Hp) (M : MdV h nB nT tv pk sn ck) => m_manyIn hE (L := L - 1) (by omega) M (c := b + 1) (by omega) (by omega)
    simp only [bx_S] at z1 z2 z4
    by_cases hw : w < 0
    · refine same_rd (x := -2) I hK (RdX.of I.2.2.2.2.2.2 ?_) (fun h1 e I1 => ?_)
      · refine B_X_box hE (by omega) ?_
        rw [nI_l (by omega)]
        have w10 : w < 10 := by
          rw [i32_lt] at hw ⊢
          have a1 : (0 : Int32).toInt = 0 := rfl
          have a2 : (10 : Int32).toInt = 10 := rfl
          omega
        have ne : ∀ k, k < 2147483648 → ¬ w = nI k := fun k hk z => by rw [z] at hw; exact nIneg hk hw
        exact (hasBox_yes hE (by omega) S hb).use (brF' (by decide) (brT w10 ⟨fun z => absurd z (ne _ (by omega)), fun z => absurd z (ne _ (by omega)), fun z => absurd z (ne _ (by omega)), fun z => absurd z (ne _ (by omega)), fun z => absurd z (ne _ (by omega)), fun _ => ⟨rfl, rfl⟩⟩))
      · refine B_M_box hE (by omega) ?_
        rw [nI_l (by omega)]
        exact (m_isBox_yes (h := sI h1 74 0 0) hE (by omega) (C.keep e).2.2.1 hb).use (brF (by decide) (brT hw ⟨rfl, thr_eq _, I1.2.2.2.2.2.2⟩))
    · obtain ⟨k, hk, rfl⟩ := nI_of hw
      rcases Nat.lt_or_ge k 10 with k10 | k10
      · have hx : ∀ x : Int32, (k = 0 → x = nI (rom pk tv b (hlv pk (b + 1)))) → (k = 1 → x = nI (fil pk tv (b + 1))) → (k = 2 → x = nI (lod pk tv (b + 1))) → (k = 3 → x = nI (hlv pk (b + 1))) → (k = 4 → x = nI (cnt pk (b + 1))) → (5 ≤ k → x = -2) → Same E L m_X_box m_M_box [.int (nI b), .int (nI k)] h K := by
          intro x x0 x1 x2 x3 x4 x5
          refine same_rd (x := x) I hK (RdX.of I.2.2.2.2.2.2 ?_) (fun h1 e I1 => ?_)
          · refine B_X_box hE (by omega) ?_
            rw [nI_l (by omega)]
            refine (hasBox_yes hE (by omega) S hb).use (brF' (by decide) (brT (nLt 10 k10) ?_))
            rw [nIe (by omega) (by omega), nIe (by omega) (by omega), nIe (by omega) (by omega), nIe (by omega) (by omega), nIe (by omega) (by omega)]
            refine ⟨fun q => (ly_roomOf hE (by omega) Y S (by omega)).use ⟨(x0 q).symm, rfl⟩, fun q => y1.use ⟨(x1 q).symm, rfl⟩, fun q => y2.use ⟨(x2 q).symm, rfl⟩, fun q => y3.use ⟨(x3 q).symm, rfl⟩, fun q => y4.use ⟨(x4 q).symm, rfl⟩, fun q => ?_⟩
            rw [nIl (by omega) (by omega)] at q
            exact ⟨(x5 (q.resolve_left (nIneg (by omega)))).symm, rfl⟩
          · have M : MdV (sI h1 74 0 0) nB nT tv pk sn ck := (C.keep e).2.2.1
            refine B_M_box hE (by omega) ?_
            rw [nI_l (by omega)]
            refine (m_isBox_yes hE (by omega) M hb).use (brF (by decide) (brF (nIneg (by omega)) ?_))
            rcases Nat.lt_or_ge k 5 with k5 | k5
            · refine (m_w_no (a := 5) (b := 9) hE (by omega) (by omega) (by omega) (fun z => ?_)).use (brT rfl (brT (show nI k ≤ nI 9 from nI_le (by omega) (by omega)) ?_))
              · obtain ⟨j, j1, j2, j3⟩ := z
                rw [nIe (by omega) (by omega)] at j3; omega
              · rw [nIe (by omega) (by omega), nIe (by omega) (by omega), nIe (by omega) (by omega), nIe (by omega) (by omega)]
                refine ⟨fun q => (m_roomOf hE (by omega) M (by omega) (m := 0) (by omega)).use ⟨(x0 q).symm, thr_eq _, I1.2.2.2.2.2.2⟩, fun q => (z1 _ M).use ⟨(x1 q).symm, thr_eq _, I1.2.2.2.2.2.2⟩, fun q => (z2 _ M).use ⟨(x2 q).symm, thr_eq _, I1.2.2.2.2.2.2⟩, fun q => (m_halvedOf hE (by omega) M (by omega)).use ⟨(x3 q).symm, thr_eq _, I1.2.2.2.2.2.2⟩, fun q => ?_⟩
                rw [nIl (by omega) (by omega)] at q
                have q4 := q.resolve_left (nIneg (by omega))
                exact (z4 _ M).use ⟨(x4 (by omega)).symm, thr_eq _, I1.2.2.2.2.2.2⟩
            · exact (m_w_yes (a := 5) (b := 9) hE (by omega) (by omega) (by omega) (by omega)).use (brF (by decide) ⟨(x5 k5).symm, thr_eq _, I1.2.2.2.2.2.2⟩)
        rcases (show k = 0 ∨ k = 1 ∨ k = 2 ∨ k = 3 ∨ k = 4 ∨ 5 ≤ k by omega) with q | q | q | q | q | q
        · exact hx _ (fun _ => rfl) (fun _ => by omega) (fun _ => by omega) (fun _ => by omega) (fun _ => by omega) (fun _ => by omega)
        · exact hx _ (fun _ => by omega) (fun _ => rfl) (fun _ => by omega) (fun _ => by omega) (fun _ => by omega) (fun _ => by omega)
        · exact hx _ (fun _ => by omega) (fun _ => by omega) (fun _ => rfl) (fun _ => by omega) (fun _ => by omega) (fun _ => by omega)
        · exact hx _ (fun _ => by omega) (fun _ => by omega) (fun _ => by omega) (fun _ => rfl) (fun _ => by omega) (fun _ => by omega)
        · exact hx _ (fun _ => by omega) (fun _ => by omega) (fun _ => by omega) (fun _ => by omega) (fun _ => rfl) (fun _ => by omega)
        · exact hx _ (fun _ => by omega) (fun _ => by omega) (fun _ => by omega) (fun _ => by omega) (fun _ => by omega) (fun _ => rfl)
      · have e10 : nI k - 10 = nI (k - 10) := by rw [show (10 : Int32) = nI 10 from rfl, nI_sub k10]
        have i1 := ly_itemAtLevel hE (L := L - 1) (by omega) Y (c := b + 1) (l := k - 10) (by omega) (by omega)
        rw [bx_S] at i1
        have ca := cnt_le pk (b + 1)
        refine same_rd (x := if cnt pk (b + 1) ≤ k - 10 then -7 else bx (atL pk lv (b + 1) (k - 10))) I hK (RdX.of I.2.2.2.2.2.2 ?_) (fun h1 e I1 => ?_)
        · refine B_X_box hE (by omega) ?_
          rw [nI_l (by omega), e10]
          refine (hasBox_yes hE (by omega) S hb).use (brF' (by decide) (brF (show ¬ nI k < nI 10 from nI_nlt k10 hk) (i1.use ?_)))
          by_cases d : cnt pk (b + 1) ≤ k - 10
          · rw [if_pos d, atL_no hO (by omega) d]
            exact brT' rfl ⟨rfl, rfl⟩
          · obtain ⟨j, hj, q1, -, -⟩ := atL_yes hO (c := b + 1) (l := k - 10) (by omega) (by omega)
            rw [if_neg d, q1, bx_S]
            exact brF' (nIm1 (by omega)) ⟨rfl, rfl⟩
        · have M : MdV (sI h1 74 0 0) nB nT tv pk sn ck := (C.keep e).2.2.1
          have i2 := m_inBox hE (L := L - 1) (by omega) M hO (c := b + 1) (l := k - 10) (by omega) (by omega) (by omega)
          rw [bx_S] at i2
          refine B_M_box hE (by omega) ?_
          rw [nI_l (by omega), e10]
          refine (m_isBox_yes hE (by omega) M hb).use (brF (by decide) (brF (nIneg (by omega)) ((m_w_no (a := 5) (b := 9) hE (by omega) (by omega) (by omega) (fun z => ?_)).use (brT rfl (brF (show ¬ nI k ≤ nI 9 from nI_ge (by omega) (by omega)) ((z4 _ M).use ?_))))))
          · obtain ⟨j, j1, j2, j3⟩ := z
            rw [nIe (by omega) (by omega)] at j3; omega
          · rw [nIl (by omega) (by omega)]
            refine ⟨fun d => ?_, fun d => i2.use ?_⟩
            · rw [if_pos d]; exact ⟨rfl, thr_eq _, I1.2.2.2.2.2.2⟩
            · rw [if_neg d]; exact ⟨rfl, thr_eq _, I1.2.2.2.2.2.2⟩
  · refine same_rd (x := -2) I hK (RdX.of I.2.2.2.2.2.2 ?_) (fun h1 e I1 => ?_)
    · exact B_X_box hE (by omega) ((hasBox_no hE (by omega) S (noBox h8 hv)).use (brT' rfl ⟨rfl, rfl⟩))
    · exact B_M_box hE (by omega) ((m_isBox_no (h := sI h1 74 0 0) hE (by omega) (C.keep e).2.2.1 (noBox h8 hv)).use (brT rfl ⟨rfl, thr_eq _, I1.2.2.2.2.2.2⟩))
theorem sE_split (f : Nat → Nat) (m : Nat) : ∀ n, sE f (m + n) = sE f m + sE (fun i => f (m + i)) n
  | 0 => rfl
  | n + 1 => by rw [← Nat.add_assoc, sE_s, sE_s, sE_split f m n, Nat.add_assoc]
/-- boxes are worth nothing -/
theorem worth_eq (hB : tvB nB nT tv) : sE (fun i => if pk i = 0 then 0 else tv i 3) 24 = sE (fun i => if pk (8 + i) = 0 then 0 else tv (8 + i) 3) 16 := by
  rw [show 24 = 8 + 16 from rfl, sE_split, sE_zero (n := 8) (fun k hk => ?_), Nat.zero_add]
  rw [((hB k (by omega)).2.1 hk).1]
  split <;> rfl
theorem eq_count (hE : EOk E) (hL : 20 ≤ L) (I : Inv h K) (hK : K + 60 ≤ 100000) (v : Int32) : Same E L m_X_count m_M_count [.int v] h K := by
  obtain ⟨nB, nT, tv, pk, lv, sn, ck, hck, C⟩ := I.2.1
  have S := C.1
  have Y := C.2.1
  have h8 := S.2.2.2.1
  have h16 := S.2.2.2.2.1
  by_cases hv : ∃ k, k < 6 ∧ v = nI k
  · obtain ⟨k, hk, rfl⟩ := hv
    have hx : ∀ x : Int32, (k = 0 → x = nI nB) → (k = 1 → x = nI nT) → (k = 2 → x = nI (nB + nT)) → (k = 3 → x = nI (24 - cnt pk 0)) → (k = 4 → x = h.1 9 2) → (k = 5 → x = nI (sE (fun i => if pk i = 0 then 0 else tv i 3) 24)) → Same E L m_X_count m_M_count [.int (nI k)] h K := by
      intro x x0 x1 x2 x3 x4 x5
      refine same_rd (x := x) I hK (RdX.of I.2.2.2.2.2.2 ?_) (fun h1 e I1 => ?_)
      · refine B_X_count hE (by omega) ?_
        rw [nIe (by omega) (by omega), nIe (by omega) (by omega), nIe (by omega) (by omega), nIe (by omega) (by omega), nIe (by omega) (by omega), nIe (by omega) (by omega)]
        refine ⟨fun q => (store_boxes hE (by omega) S).use ⟨(x0 q).symm, rfl⟩, fun q => (store_things hE (by omega) S).use ⟨(x1 q).symm, rfl⟩, fun q => (store_itemCount hE (by omega) S).use ⟨(x2 q).symm, rfl⟩, fun q => (ly_manyPacked hE (by omega) Y).use ⟨(x3 q).symm, rfl⟩, fun q => (show RdI E (L - 1) m_Reader_length 9 [] h (h.1 9 2) from B_Reader_length hE (by omega) ⟨rfl, rfl⟩).use ⟨(x4 q).symm, rfl⟩, fun q => (ly_worthPacked hE (by omega) Y S).use ⟨(x5 q).symm, rfl⟩, fun q => ?_⟩
        rcases q with q | q
        · exact absurd q (nIneg (by omega))
        · exact absurd q (nI_ge hk (by omega))
      · have M : MdV (sI h1 74 0 0) nB nT tv pk sn ck := (C.keep e).2.2.1
        obtain ⟨n, -, t1, t2, -⟩ := I1.2.2.2.1
        have e92 := e.f 9 2
        refine B_M_count hE (by omega) ?_
        rw [nIe (by omega) (by omega), nIe (by omega) (by omega), nIe (by omega) (by omega), nIe (by omega) (by omega), nIe (by omega) (by omega), nIe (by omega) (by omega)]
        refine ⟨fun q => ⟨in75 (k := 0) (by omega), M.2.1.1.trans (x0 q).symm, thr_eq _, I1.2.2.2.2.2.2⟩, fun q => ⟨in75 (k := 1) (by omega), M.2.1.2.1.trans (x1 q).symm, thr_eq _, I1.2.2.2.2.2.2⟩, fun q => ⟨in75 (k := 2) (by omega), M.2.1.2.2.1.trans (x2 q).symm, thr_eq _, I1.2.2.2.2.2.2⟩, fun q => (m_itemsIn hE (by omega) M).use ⟨by rw [x3 q, packed_eq], thr_eq _, I1.2.2.2.2.2.2⟩, fun q => ⟨?_, thr_eq _, I1.2.2.2.2.2.2⟩, fun q => (m_worthIn hE (by omega) M).use ⟨by rw [x5 q, worth_eq C.2.2.2.2.2], thr_eq _, I1.2.2.2.2.2.2⟩, fun q => ?_⟩
        · rw [x4 q, ← e92, t1]; exact t2
        · rcases q with q | q
          · exact absurd q (nIneg (by omega))
          · exact absurd q (nI_ge hk (by omega))
    rcases (show k = 0 ∨ k = 1 ∨ k = 2 ∨ k = 3 ∨ k = 4 ∨ k = 5 by omega) with q | q | q | q | q | q
    · exact hx _ (fun _ => rfl) (fun _ => by omega) (fun _ => by omega) (fun _ => by omega) (fun _ => by omega) (fun _ => by omega)
    · exact hx _ (fun _ => by omega) (fun _ => rfl) (fun _ => by omega) (fun _ => by omega) (fun _ => by omega) (fun _ => by omega)
    · exact hx _ (fun _ => by omega) (fun _ => by omega) (fun _ => rfl) (fun _ => by omega) (fun _ => by omega) (fun _ => by omega)
    · exact hx _ (fun _ => by omega) (fun _ => by omega) (fun _ => by omega) (fun _ => rfl) (fun _ => by omega) (fun _ => by omega)
    · exact hx _ (fun _ => by omega) (fun _ => by omega) (fun _ => by omega) (fun _ => by omega) (fun _ => rfl) (fun _ => by omega)
    · exact hx _ (fun _ => by omega) (fun _ => by omega) (fun _ => by omega) (fun _ => by omega) (fun _ => by omega) (fun _ => rfl)
  · have hw2 := not_small (n := 6) (by omega) hv
    refine same_rd (x := -1) I hK (RdX.of I.2.2.2.2.2.2 ?_) (fun h1 e I1 => ?_)
    · exact B_X_count hE (by omega) ⟨fun q => absurd q (no_eq hw2 (by omega) (by omega)), fun q => absurd q (no_eq hw2 (by omega) (by omega)), fun q => absurd q (no_eq hw2 (by omega) (by omega)), fun q => absurd q (no_eq hw2 (by omega) (by omega)), fun q => absurd q (no_eq hw2 (by omega) (by omega)), fun q => absurd q (no_eq hw2 (by omega) (by omega)), fun _ => ⟨rfl, rfl⟩⟩
    · exact B_M_count hE (by omega) ⟨fun q => absurd q (no_eq hw2 (by omega) (by omega)), fun q => absurd q (no_eq hw2 (by omega) (by omega)), fun q => absurd q (no_eq hw2 (by omega) (by omega)), fun q => absurd q (no_eq hw2 (by omega) (by omega)), fun q => absurd q (no_eq hw2 (by omega) (by omega)), fun q => absurd q (no_eq hw2 (by omega) (by omega)), fun _ => ⟨rfl, thr_eq _, I1.2.2.2.2.2.2⟩⟩
theorem eq_room (hE : EOk E) (hL : 20 ≤ L) (I : Inv h K) (hK : K + 60 ≤ 100000) (u v w : Int32) : Same E L m_X_room m_M_room [.int u, .int v, .int w] h K := by
  have gen : ∀ {a b : Nat} (x : Int32), a ≤ b → b < 2147483648 → (∃ k, a ≤ k ∧ k ≤ b ∧ x = nI k) ∨ ((¬ ∃ k, a ≤ k ∧ k ≤ b ∧ x = nI k) ∧ (x < nI a ∨ (¬ x < nI a ∧ nI b < x))) := by
    intro a b x hab hb
    by_cases c : ∃ k, a ≤ k ∧ k ≤ b ∧ x = nI k
    · exact Or.inl c
    · refine Or.inr ⟨c, ?_⟩
      by_cases c1 : x < nI a
      · exact Or.inl c1
      · refine Or.inr ⟨c1, Classical.byContradiction fun c2 => c ?_⟩
        rw [i32_lt, nI_int (by omega)] at c1
        rw [i32_lt, nI_int (by omega)] at c2
        refine ⟨x.toInt.toNat, by omega, by omega, ?_⟩
        rw [i32_eq, nI_int (by omega)]
        omega
  rcases gen (a := 1) (b := 99) u (by omega) (by omega) with ⟨a, a1, a2, rfl⟩ | ⟨nu, hu⟩
  · have ua : ¬ nI a < nI 1 := nI_nlt (by omega) (by omega)
    have ub : ¬ nI 99 < nI a := nI_nlt (by omega) (by omega)
    rcases gen (a := 1) (b := 64) v (by omega) (by omega) with ⟨b, b1, b2, rfl⟩ | ⟨nv, hv⟩
    · have va : ¬ nI b < nI 1 := nI_nlt (by omega) (by omega)
      have vb : ¬ nI 64 < nI b := nI_nlt (by omega) (by omega)
      rcases gen (a := 0) (b := 9) w (by omega) (by omega) with ⟨c, c1, c2, rfl⟩ | ⟨nw, hw⟩
      · have ab : a * b ≤ 99 * 64 := Nat.mul_le_mul a2 b2
        refine same_rd (x := nI (a * b / 2 ^ c)) I hK (RdX.of I.2.2.2.2.2.2 ?_) (fun h1 e I1 => ?_)
        · exact B_X_room hE (by omega) (brF ua (brF ub (brF va (brF vb (brF (by decide) (brF (nIneg (by omega)) (brT (show nI c ≤ nI 9 from nI_le c2 (by omega)) ((roomBy_ok hE (by omega) (by omega) (by omega)).use ⟨rfl, rfl⟩))))))))
        · exact B_M_room hE (by omega) ((m_w_yes (a := 1) (b := 99) hE (by omega) (by omega) (by omega) (by omega)).use (brF (by decide) ((m_w_yes (a := 1) (b := 64) hE (by omega) (by omega) (by omega) (by omega)).use (brF (by decide) ((m_w_yes (a := 0) (b := 9) hE (by omega) (by omega) (by omega) (by omega)).use (brF (by decide) ((m_roomBy hE (by omega) (by omega) (by omega)).use ⟨rfl, thr_eq _, I1.2.2.2.2.2.2⟩)))))))
      · refine same_rd (x := -3) I hK (RdX.of I.2.2.2.2.2.2 ?_) (fun h1 e I1 => ?_)
        · refine B_X_room hE (by omega) (brF ua (brF ub (brF va (brF vb (brF (by decide) ?_)))))
          rcases hw with q | ⟨q, q2⟩
          · exact brT q ⟨rfl, rfl⟩
          · exact brF q (brF (fun z => by rw [i32_le] at z; rw [i32_lt] at q2; exact absurd q2 (Int.not_lt.mpr z)) ⟨rfl, rfl⟩)
        · exact B_M_room hE (by omega) ((m_w_yes (a := 1) (b := 99) hE (by omega) (by omega) (by omega) (by omega)).use (brF (by decide) ((m_w_yes (a := 1) (b := 64) hE (by omega) (by omega) (by omega) (by omega)).use (brF (by decide) ((m_w_no (a := 0) (b := 9) hE (by omega) (by omega) (by omega) nw).use (brT rfl ⟨rfl, thr_eq _, I1.2.2.2.2.2.2⟩))))))
    · refine same_rd (x := -3) I hK (RdX.of I.2.2.2.2.2.2 ?_) (fun h1 e I1 => ?_)
      · refine B_X_room hE (by omega) (brF ua (brF ub ?_))
        rcases hv with q | ⟨q, q2⟩
        · exact brT q (brT rfl ⟨rfl, rfl⟩)
        · exact brF q (brT q2 (brT rfl ⟨rfl, rfl⟩))
      · exact B_M_room hE (by omega) ((m_w_yes (a := 1) (b := 99) hE (by omega) (by omega) (by omega) (by omega)).use (brF (by decide) ((m_w_no (a := 1) (b := 64) hE (by omega) (by omega) (by omega) nv).use (brT rfl ⟨rfl, thr_eq _, I1.2.2.2.2.2.2⟩))))
  · refine same_rd (x := -3) I hK (RdX.of I.2.2.2.2.2.2 ?_) (fun h1 e I1 => ?_)
    · refine B_X_room hE (by omega) ?_
      rcases hu with q | ⟨q, q2⟩
      · exact brT q (brT rfl ⟨rfl, rfl⟩)
      · exact brF q (brT q2 (brT rfl ⟨rfl, rfl⟩))
    · exact B_M_room hE (by omega) ((m_w_no (a := 1) (b := 99) hE (by omega) (by omega) (by omega) nu).use (brT rfl ⟨rfl, thr_eq _, I1.2.2.2.2.2.2⟩))
end Pub3
