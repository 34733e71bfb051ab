section Shut11
variable {E : EnvX} {L : Nat} {h : Hp} {K : Nat} {nB nT : Nat} {tv : Nat → Nat → Nat} {pk sn : Nat → Nat} {ck : Nat}
theorem m_shutWays (hE : EOk E) (hL : 18 ≤ L) (M : MdV h nB nT tv pk sn ck) {b x : Nat} (hb : b < nB) (hx : x < 16777216) (m6 : cB (fun i => x.testBit i) 24 ≤ 6) (hxi : ∀ i, i < 24 → x.testBit i = true → isIt nB nT i) : ConI E L m_M_shutWays 74 [.int (nI b), .int (nI x)] h (fun y h' => y = nI (wy tv nB (itK (fun i => x.testBit i)) (hoS nB x b) (cB (fun i => x.testBit i) 24) (cB (fun i => x.testBit i) 24) (fun _ => 0)) ∧ MdV h' nB nT tv pk sn ck ∧ EqO (fun q => q = 74 ∨ q = 75 ∨ q = 79 ∨ q = 83 ∨ q = 84) h h' ∧ EqT h h' ∧ (∀ j, j < cB (fun i => x.testBit i) 24 → h'.2.1 83 j = nI (itK (fun i => x.testBit i) j)) ∧ (wy tv nB (itK (fun i => x.testBit i)) (hoS nB x b) (cB (fun i => x.testBit i) 24) (cB (fun i => x.testBit i) 24) (fun _ => 0) ≠ 0 → ∀ j, j < cB (fun i => x.testBit i) 24 → h'.2.1 84 j = bx (fw tv nB (itK (fun i => x.testBit i)) (hoS nB x b) (cB (fun i => x.testBit i) 24) (cB (fun i => x.testBit i) 24) (fun _ => 0) (itK (fun i => x.testBit i) j)))) := by
  have h8 := M.1.1
  generalize hR : (fun (y : Int32) (h' : Hp) => y = nI (wy tv nB (itK (fun i => x.testBit i)) (hoS nB x b) (cB (fun i => x.testBit i) 24) (cB (fun i => x.testBit i) 24) (fun _ => 0)) ∧ MdV h' nB nT tv pk sn ck ∧ EqO (fun q => q = 74 ∨ q = 75 ∨ q = 79 ∨ q = 83 ∨ q = 84) h h' ∧ EqT h h' ∧ (∀ j, j < cB (fun i => x.testBit i) 24 → h'.2.1 83 j = nI (itK (fun i => x.testBit i) j)) ∧ (wy tv nB (itK (fun i => x.testBit i)) (hoS nB x b) (cB (fun i => x.testBit i) 24) (cB (fun i => x.testBit i) 24) (fun _ => 0) ≠ 0 → ∀ j, j < cB (fun i => x.testBit i) 24 → h'.2.1 84 j = bx (fw tv nB (itK (fun i => x.testBit i)) (hoS nB x b) (cB (fun i => x.testBit i) 24) (cB (fun i => x.testBit i) 24) (fun _ => 0) (itK (fun i => x.testBit i) j)))) = R
  have mx := fun i hi => mk_test (mk_nat hx) (i := i) hi
  refine B_M_shutWays hE (by omega) ((m_keeps hE (by omega)).mono (fun h1 z1 => ?_))
  obtain ⟨e1, k1⟩ := z1
  have lp : ∀ g i, g + i = 24 → ∀ h2, EqO (fun q => q = 74 ∨ q = 75 ∨ q = 83) h1 h2 → (∀ k, k ≠ 24 → h2.1 74 k = h1.1 74 k) → (∀ k, (k < 171 ∨ 195 ≤ k) → h2.2.1 75 k = h1.2.1 75 k) → MdV h2 nB nT tv (fun j => if j < i then 0 else pk j) sn ck → h2.1 74 24 = nI (cB (fun i => x.testBit i) i) → (∀ j, j < cB (fun i => x.testBit i) i → h2.2.1 83 j = nI (itK (fun i => x.testBit i) j)) → at_M_shutWays_11 E L h2 R (nI b) (nI x) (nI i) := by
    intro g
    induction g with
    | zero =>
      intro i hi h2 e2 f2 t2 M2 a4 a3
      rw [show i = 24 by omega] at M2 a4 a3 ⊢
      have wl := wy_le (tv := tv) (it := itK (fun i => x.testBit i)) (Hs := hoS nB x b) (m := cB (fun i => x.testBit i) 24) h8 (cB (fun i => x.testBit i) 24) (fun _ => 0)
      have pp := p8 _ m6
      refine B_M_shutWays_11 (brT (nEnd 24) ?_)
      have M2' : MdV (sI h2 74 25 0) nB nT tv (fun _ => 0) sn ck := MsV_pk M2 (fun j hj => (if_pos hj).symm)
      refine (m_shuts hE m6 hb hx (fun j hj => hxi _ (itK_yes hj).1 (itK_yes hj).2.1) (fun i j hi hj e => itK_inj hi hj e) (fun c hc t => ⟨cB (fun i => x.testBit i) c, cB_lt (W := fun i => x.testBit i) t (by omega), itK_at (W := fun i => x.testBit i) (by omega) t⟩) (cB (fun i => x.testBit i) 24) 0 (by omega) (L - 1) (by omega) (sI h2 74 25 0) (fun _ => 0) (fun _ => 0) 0 M2' (fun _ _ => Nat.zero_le _) (fun _ _ _ => rfl) (fun _ _ => Nat.zero_le _) (fun j hj => absurd hj (Nat.not_lt_zero j)) (fun _ _ _ => rfl) (by rw [sI_1, if_pos rfl, if_neg (by omega)]; exact a4) (by rw [sI_1, if_pos rfl, if_pos rfl]; rfl) a3 (by omega)).mono (fun h3 z3 => ?_)
      obtain ⟨s3, ⟨q3, M3, -, -⟩, w3, -, v3⟩ := z3
      refine (m_isAgain (h := h3) hE (by omega)).mono (fun h5 z5 => ?_)
      obtain ⟨e5, a5, b5⟩ := z5
      have k3 : ∀ j, j < 49 → h3.2.1 79 j = h.2.1 75 (171 + j) := fun j hj => by
        rw [(s3.1 79 (by omega)).2.1]
        show h2.2.1 79 j = _
        rw [(e2 79 (by omega)).2.1]; exact k1 j hj
      rw [← hR]
      have eo : EqO (fun q => q = 74 ∨ q = 75 ∨ q = 79 ∨ q = 83 ∨ q = 84) h h5 := ((((e1.wk (fun q z => by omega)).trans (e2.wk (fun q z => by omega))).trans (EqO.sI (F := fun q => q = 74 ∨ q = 75 ∨ q = 79 ∨ q = 83 ∨ q = 84) (Or.inl rfl))).trans (s3.1.wk (fun q z => by omega))).trans (e5.wk (fun q z => by omega))
      have et : EqT h h5 := by
        refine ⟨fun p hp => ?_, fun q hq => (eo q ((show ∀ p ∈ perA2, ¬ (p = 74 ∨ p = 75 ∨ p = 79 ∨ p = 83 ∨ p = 84) by decide) q hq)).2, fun k hk => ?_⟩
        · by_cases c : p.1 = 74
          · have np := (show ∀ p ∈ perF2, p.1 = 74 → p.2 ≠ 17 ∧ p.2 ≠ 25 ∧ p.2 ≠ 24 by decide) p hp c
            rw [c, (e5 74 (by omega)).1, s3.2.1 _ np.1 np.2.1, sI_1, if_pos rfl, if_neg np.2.1, f2 _ np.2.2, (e1 74 (by omega)).1]
          · rw [(eo p.1 ((show ∀ p ∈ perF2, p.1 ≠ 74 → ¬ (p.1 = 74 ∨ p.1 = 75 ∨ p.1 = 79 ∨ p.1 = 83 ∨ p.1 = 84) by decide) p hp c)).1]
        · rw [b5 k (Or.inr hk), s3.2.2 k (Or.inr (by omega)), sI_A, t2 k (Or.inr (by omega)), (e1 75 (by omega)).2.1]
      refine ⟨?_, MsV_back M M3 (fun j hj => by rw [a5 j hj, k3 j hj]) (fun j hj => by rw [b5 j (Or.inl hj)]), eo, et, fun j hj => ?_, fun z j hj => ?_⟩
      · rw [(e5 74 (by omega)).1, w3, Nat.zero_add]
      · rw [(e5 83 (by omega)).2.1, (s3.1 83 (by omega)).2.1]
        exact a3 j hj
      · rw [(e5 84 (by omega)).2.1]
        exact v3 rfl z j hj
    | succ g ih =>
      intro i hi h2 e2 f2 t2 M2 a4 a3
      have i24 : i < 24 := by omega
      have cs := cB_s (fun i => x.testBit i) i
      have cm := cB_mono (fun i => x.testBit i) (u := i + 1) (v := 24) (by omega)
      have MS : MdV (sA h2 75 (171 + i) 0) nB nT tv (fun j => if j < i + 1 then 0 else pk j) sn ck := MsV_pk (sT_MsV M2 i24) (fun j hj => by
        unfold upN
        by_cases c : j = i
        · rw [if_pos c, if_pos (by omega)]
        · rw [if_neg c]
          show (if j < i + 1 then 0 else pk j) = if j < i then 0 else pk j
          by_cases d : j < i
          · rw [if_pos d, if_pos (show j < i + 1 by omega)]
          · rw [if_neg d, if_neg (show ¬ j < i + 1 by omega)])
      have ts : ∀ k, (k < 171 ∨ 195 ≤ k) → (sA h2 75 (171 + i) 0).2.1 75 k = h1.2.1 75 k := fun k hk => by rw [sA_i, if_neg (by omega)]; exact t2 k hk
      have es : EqO (fun q => q = 74 ∨ q = 75 ∨ q = 83) h1 (sA h2 75 (171 + i) 0) := e2.trans (EqO.sA (F := fun q => q = 74 ∨ q = 75 ∨ q = 83) (Or.inr (Or.inl rfl)))
      refine B_M_shutWays_11 (brF (nG 24 i24) ?_)
      rw [mx i i24, nI_1, show (171 : Int32) = nI 171 from rfl, nI_add, nIc (by omega)]
      refine ⟨in75 (by omega), ?_⟩
      rw [show (sA h2 75 (171 + i) 0).1 74 24 = h2.1 74 24 from rfl, a4]
      by_cases t : x.testBit i = true
      · rw [if_pos t]
        have cs' : cB (fun i => x.testBit i) (i + 1) = cB (fun i => x.testBit i) i + 1 := by rw [cs]; show _ + (if x.testBit i = true then 1 else 0) = _; rw [if_pos t]
        have ik : itK (fun i => x.testBit i) (cB (fun i => x.testBit i) i) = i := itK_at (W := fun i => x.testBit i) i24 t
        generalize hk : cB (fun i => x.testBit i) i = k at *
        refine brF' (by decide) ⟨(in83 (by omega)).1, ?_⟩
        rw [nIc (by omega), show (sA (sA h2 75 (171 + i) 0) 83 k (nI i)).1 74 24 = h2.1 74 24 from rfl, a4, nI_1]
        refine ih (i + 1) (by omega) _ ((es.trans (EqO.sA (F := fun q => q = 74 ∨ q = 75 ∨ q = 83) (Or.inr (Or.inr rfl)))).trans (EqO.sI (F := fun q => q = 74 ∨ q = 75 ∨ q = 83) (Or.inl rfl))) (fun k hk => by rw [sI_1, if_pos rfl, if_neg hk]; exact f2 k hk) (fun k hk => by rw [sI_A, sA_o (by omega)]; exact ts k hk) (MsV_eq MS (by rw [sI_A, sA_o (by omega)])) (by rw [cs', sI_1, if_pos rfl, if_pos rfl]) (fun j hj => ?_)
        rw [cs'] at hj
        rw [sI_A, sA_i]
        by_cases c : j = k
        · rw [if_pos c, c, ik]
        · rw [if_neg c, sA_o (by omega)]; exact a3 j (by omega)
      · rw [if_neg t]
        have cs' : cB (fun i => x.testBit i) (i + 1) = cB (fun i => x.testBit i) i := by rw [cs]; show _ + (if x.testBit i = true then 1 else 0) = _; rw [if_neg t]; rfl
        exact brT' rfl (ih (i + 1) (by omega) _ es f2 ts MS (by rw [cs']; exact a4) (fun j hj => by rw [sA_o (by omega)]; exact a3 j (by rw [cs'] at hj; exact hj)))
  refine lp 24 0 (by omega) _ (EqO.sI (F := fun q => q = 74 ∨ q = 75 ∨ q = 83) (Or.inl rfl)) (fun k hk => by rw [sI_1, if_pos rfl, if_neg hk]) (fun _ _ => rfl) (MsV_pk (MsV_eq M (show (sI h1 74 24 0).2.1 75 = h.2.1 75 from (e1 75 (by omega)).2.1)) (fun j _ => if_neg (Nat.not_lt_zero j))) (by rw [sI_1, if_pos rfl, if_pos rfl]; rfl) (fun j hj => absurd hj (Nat.not_lt_zero j))
/-- whether the set can be shut in b: for both -/
theorem shutSet (hE : EOk E) (hL : 4 ≤ L) (S : StV h 1 nB nT tv) {b : Nat} (hb : b < nB) (v : Int32) : (RdI E L m_X_canBeShut 0 [.int (nI b), .int v] h 0 ∧ ∀ h', MdV h' nB nT tv pk sn ck → (RdI E L m_M_isShut 74 [.int v] h' 0 ∨ (RdI E L m_M_isShut 74 [.int v] h' 1 ∧ RdI E L m_M_isOf 0 [.int v, .int (nI b)] h' 1))) ∨ (RdI E L m_X_canBeShut 0 [.int (nI b), .int v] h 1 ∧ (∀ h', MdV h' nB nT tv pk sn ck → RdI E L m_M_isShut 74 [.int v] h' 1 ∧ RdI E L m_M_isOf 0 [.int v, .int (nI b)] h' 0) ∧ ∃ x, x < 16777216 ∧ v = nI x ∧ cB (fun i => x.testBit i) 24 ≤ 6 ∧ (∀ i, i < 24 → x.testBit i = true → isIt nB nT i)) := by
  have h8 := S.2.2.2.1
  have h16 := S.2.2.2.2.1
  have ho := x_hasOnly (h := h) hE (L := L - 1) (by omega) v (iAll nB nT)
  have w23 : ∀ h' : Hp, RdI E (L - 1) m_M_within 0 [.long (nI b).toInt64, .long 0, .long 23] h' 1 := fun h' => m_w_yes (a := 0) (b := 23) hE (by omega) (by omega) (by omega) (by omega)
  by_cases hs : v &&& (iAll nB nT ^^^ (-1)) = 0
  · rw [if_pos hs] at ho
    have bts : ∀ i, i < 32 → bt v i = true → isIt nB nT i := fun i hi hv => by
      have := only_bt hs hi hv
      rw [bt_iAll (by omega) (by omega) hi, Bool.or_eq_true] at this
      rcases this with z | z
      · exact Or.inl (of_decide_eq_true z)
      · exact Or.inr (of_decide_eq_true z)
    obtain ⟨x, hx, rfl⟩ := only_nat hs (fun i h1 h2 => by rw [bt_iAll (by omega) (by omega) h2, decide_eq_false (by omega), decide_eq_false (by omega)]; rfl)
    have pl := (bcN hx).2
    have tb := mk_test (mk_nat hx) (show b < 24 by omega)
    have xi : ∀ i, i < 24 → x.testBit i = true → isIt nB nT i := fun i hi t => bts i (by omega) (by
      have e1 := bt_test (nI x) hi
      rw [mk_test (mk_nat hx) hi, if_pos t] at e1
      by_cases c : bt (nI x) i = true
      · exact c
      · rw [if_neg c] at e1; exact absurd e1 (by decide))
    have p1 : ∀ h', MdV h' nB nT tv pk sn ck → RdI E (L - 1) m_M_itemsAll 74 [] h' (iAll nB nT) := fun h' M => m_itemsAll hE (by omega) M
    by_cases q : pcn x ≤ 6
    · have ms : ∀ h', MdV h' nB nT tv pk sn ck → RdI E L m_M_isShut 74 [.int (nI x)] h' 1 := fun h' M => B_M_isShut hE (by omega) ((p1 h' M).use (brT' hs ((m_bitsOf hE (by omega) hx).use (brF (by rw [show (6 : Int32) = nI 6 from rfl, nIt (by omega) (by omega)]; omega) ⟨rfl, rfl⟩))))
      by_cases t : x.testBit b = true
      · rw [if_pos t] at tb
        refine Or.inl ⟨B_X_canBeShut hE (by omega) ((st_itemBits hE (by omega) S).use (ho.use (brF (by decide) ((i_bitCount hE (by omega) hx).use (brF (by rw [show (6 : Int32) = nI 6 from rfl, nIt (by omega) (by omega)]; omega) ?_))))), fun h' M => Or.inr ⟨ms h' M, B_M_isOf hE (by omega) ((w23 h').use (brF (by decide) ?_))⟩⟩
        · rw [tb]; exact brF' (by decide) ⟨rfl, rfl⟩
        · rw [tb]; exact brT' rfl ⟨rfl, rfl⟩
      · rw [if_neg t] at tb
        refine Or.inr ⟨B_X_canBeShut hE (by omega) ((st_itemBits hE (by omega) S).use (ho.use (brF (by decide) ((i_bitCount hE (by omega) hx).use (brF (by rw [show (6 : Int32) = nI 6 from rfl, nIt (by omega) (by omega)]; omega) ?_))))), fun h' M => ⟨ms h' M, B_M_isOf hE (by omega) ((w23 h').use (brF (by decide) ?_))⟩, x, hx, rfl, q, xi⟩
        · rw [tb]; exact brT' rfl ⟨rfl, rfl⟩
        · rw [tb]; exact brF' (by decide) ⟨rfl, rfl⟩
    · refine Or.inl ⟨B_X_canBeShut hE (by omega) ((st_itemBits hE (by omega) S).use (ho.use (brF (by decide) ((i_bitCount hE (by omega) hx).use (brT (by rw [show (6 : Int32) = nI 6 from rfl, nIt (by omega) (by omega)]; omega) ⟨rfl, rfl⟩))))), fun h' M => Or.inl (B_M_isShut hE (by omega) ((p1 h' M).use (brT' hs ((m_bitsOf hE (by omega) hx).use (brT (by rw [show (6 : Int32) = nI 6 from rfl, nIt (by omega) (by omega)]; omega) ⟨rfl, rfl⟩)))))⟩
  · rw [if_neg hs] at ho
    exact Or.inl ⟨B_X_canBeShut hE (by omega) ((st_itemBits hE (by omega) S).use (ho.use (brT rfl ⟨rfl, rfl⟩))), fun h' M => Or.inl (B_M_isShut hE (by omega) ((m_itemsAll hE (by omega) M).use (brF' hs ⟨rfl, rfl⟩)))⟩
end Shut11
