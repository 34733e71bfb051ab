/-! ===== carriers ===== -/
def lcg (v : Int32) : Int32 := 1103515245 * v + 12345
def hiN (v : Int32) : Nat := v.toBitVec.toNat / 65536
theorem hiN_lt (v : Int32) : hiN v < 65536 := by
  have : v.toBitVec.toNat < 4294967296 := v.toBitVec.isLt
  unfold hiN; omega
theorem hi16 (v : Int32) : (v.toUInt32 >>> ((16 : Int32).toUInt32 &&& Int32.toUInt32 31)).toInt32 = nI (hiN v) := by
  apply Int32.toBitVec_inj.1
  apply BitVec.eq_of_toNat_eq
  show (v.toUInt32 >>> ((16 : Int32).toUInt32 &&& Int32.toUInt32 31)).toNat = (hiN v) % 2 ^ 32
  have h1 : ((16 : Int32).toUInt32 &&& Int32.toUInt32 31).toNat = 16 := by decide
  rw [UInt32.toNat_shiftRight, h1, show 16 % 32 = 16 from rfl, Nat.shiftRight_eq_div_pow, Nat.mod_eq_of_lt (show hiN v < 2 ^ 32 by have := hiN_lt v; omega)]
  rfl
theorem pckR (v : Int32) {n : Nat} (h0 : 0 < n) (hn : n < 100) : nI (hiN v) - nI (hiN v) / nI n * nI n = nI (hiN v % n) := pk_rem (by have := hiN_lt v; omega) h0 (by omega)
def carS (nB nT : Nat) (tv : Nat → Nat → Nat) (z : Int32 × Nat × Sg) : Int32 × Nat × Sg :=
  if z.2.2.1 (itA nB (hiN (lcg z.1) % (nB + nT))) = 0 then
    (if nB = 0 then (lcg z.1, z.2.1, z.2.2)
     else if rfs z.2.2.1 z.2.2.2.1 tv nB (itA nB (hiN (lcg z.1) % (nB + nT))) (hiN (lcg (lcg z.1)) % nB) = 0 then
       (lcg (lcg z.1), z.2.1 + 1, (upN z.2.2.1 (itA nB (hiN (lcg z.1) % (nB + nT))) (hiN (lcg (lcg z.1)) % nB + 1), upN z.2.2.2.1 (itA nB (hiN (lcg z.1) % (nB + nT))) (cnt z.2.2.1 (hiN (lcg (lcg z.1)) % nB + 1)), upN z.2.2.2.2.1 (itA nB (hiN (lcg z.1) % (nB + nT))) (z.2.2.2.2.2 + 1), z.2.2.2.2.2 + 1))
     else (lcg (lcg z.1), z.2.1, z.2.2))
  else if 0 < lft z.2.2.1 z.2.2.2.1 (bO 0) 9 (itA nB (hiN (lcg z.1) % (nB + nT)) + 1) then (lcg z.1, z.2.1, z.2.2)
  else (lcg z.1, z.2.1 + 1, (upN z.2.2.1 (itA nB (hiN (lcg z.1) % (nB + nT))) 0, z.2.2.2))
def carR (nB nT : Nat) (tv : Nat → Nat → Nat) : Nat → Int32 × Nat × Sg → Int32 × Nat × Sg
  | 0, z => z
  | m + 1, z => carR nB nT tv m (carS nB nT tv z)
theorem itA_it {nB nT k : Nat} (h8 : nB ≤ 8) (h16 : nT ≤ 16) (hk : k < nB + nT) : isIt nB nT (itA nB k) := by
  unfold itA isIt
  by_cases c : k < nB
  · rw [if_pos c]; exact Or.inl c
  · rw [if_neg c]; exact Or.inr (by omega)
theorem carS_ok {nB nT : Nat} {tv : Nat → Nat → Nat} (h8 : nB ≤ 8) (h16 : nT ≤ 16) (hp : 0 < nB + nT) {z : Int32 × Nat × Sg} (ok : SgOk z.2.2) : SgOk (carS nB nT tv z).2.2 ∧ (carS nB nT tv z).2.2.2.2.2 ≤ z.2.2.2.2.2 + 1 ∧ (carS nB nT tv z).2.1 ≤ z.2.1 + 1 := by
  have hk : hiN (lcg z.1) % (nB + nT) < nB + nT := Nat.mod_lt _ hp
  have hit := itA_lt h8 h16 hk
  obtain ⟨o1, o2, o3⟩ := ok
  unfold carS
  generalize itA nB (hiN (lcg z.1) % (nB + nT)) = i at hit
  by_cases c : z.2.2.1 i = 0
  · rw [if_pos c]
    by_cases c1 : nB = 0
    · rw [if_pos c1]; exact ⟨⟨o1, o2, o3⟩, Nat.le_succ _, Nat.le_succ _⟩
    · rw [if_neg c1]
      have hb : hiN (lcg (lcg z.1)) % nB < nB := Nat.mod_lt _ (by omega)
      by_cases c2 : rfs z.2.2.1 z.2.2.2.1 tv nB i (hiN (lcg (lcg z.1)) % nB) = 0
      · rw [if_pos c2]
        obtain ⟨q1, q2, q3, -⟩ := rfs_0 c2
        exact ⟨⟨acy_put o1 o3 (by omega) q2 q3, OrdV_put o2 q1, upN_le o3 (by omega)⟩, Nat.le_refl _, Nat.le_refl _⟩
      · rw [if_neg c2]; exact ⟨⟨o1, o2, o3⟩, Nat.le_succ _, Nat.le_succ _⟩
  · rw [if_neg c]
    by_cases c1 : 0 < lft z.2.2.1 z.2.2.2.1 (bO 0) 9 (i + 1)
    · rw [if_pos c1]; exact ⟨⟨o1, o2, o3⟩, Nat.le_succ _, Nat.le_succ _⟩
    · rw [if_neg c1]
      have ht : z.2.2.1 i ≠ 0 → ∀ j, j < 24 → z.2.2.1 j = z.2.2.1 i → ¬ z.2.2.2.1 i < z.2.2.2.1 j := fun w => lft_top (lv := z.2.2.2.1) hit w (by omega)
      exact ⟨⟨acy_take o1 i, OrdV_take o2 hit ht, upN_le o3 (by omega)⟩, Nat.le_succ _, Nat.le_refl _⟩
theorem carR_ok {nB nT : Nat} {tv : Nat → Nat → Nat} (h8 : nB ≤ 8) (h16 : nT ≤ 16) (hp : 0 < nB + nT) : ∀ (m : Nat) (z : Int32 × Nat × Sg), SgOk z.2.2 → SgOk (carR nB nT tv m z).2.2 ∧ (carR nB nT tv m z).2.2.2.2.2 ≤ z.2.2.2.2.2 + m
  | 0, z, ok => ⟨ok, Nat.le_refl _⟩
  | m + 1, z, ok => by
    obtain ⟨a, b, -⟩ := carS_ok (tv := tv) h8 h16 hp ok
    obtain ⟨c, d⟩ := carR_ok (tv := tv) h8 h16 hp m (carS nB nT tv z) a
    exact ⟨c, by rw [carR]; omega⟩
section Carry
variable {E : EnvX} {L : Nat} {h : Hp} {K : Nat} {nB nT : Nat} {tv : Nat → Nat → Nat}
theorem x_draw (hE : EOk E) (hL : 1 ≤ L) (v : Int32) : RdI E L m_X_drawAfter 0 [.int v] h (lcg v) := B_X_drawAfter hE hL ⟨rfl, rfl⟩
theorem x_car (hE : EOk E) (hL : 10 ≤ L) (hp : 0 < nB + nT) (S : StV h 1 nB nT tv) {N : Nat} (hN : N ≤ 60) {post : Int32 → Hp → Prop} : ∀ m k, m + k = N → ∀ (z : Int32 × Nat × Sg) (h1 : Hp), EqO (fun q => q = 4 ∨ q = 5) h h1 → SgOk z.2.2 → LyV h1 3 z.2.2.1 z.2.2.2.1 → (∀ h', EqO (fun q => q = 4 ∨ q = 5) h h' → LyV h' 3 (carR nB nT tv m z).2.2.1 (carR nB nT tv m z).2.2.2.1 → post (nI (carR nB nT tv m z).2.1) h') → at_X_carriers_38 E L h1 post (nI N) (nI (nB + nT)) z.1 (nI z.2.1) (nI k) := by
  have h8 := S.2.2.2.1
  have h16 := S.2.2.2.2.1
  intro m
  induction m with
  | zero =>
    intro k hk z h1 e ok Y H
    exact B_X_carriers_38 (brT (nI_le (by omega) (by omega)) (H h1 e Y))
  | succ m ih =>
    intro k hk z h1 e ok Y H
    have hkk : hiN (lcg z.1) % (nB + nT) < nB + nT := Nat.mod_lt _ hp
    have hit := itA_lt h8 h16 hkk
    have S1 : StV h1 1 nB nT tv := S.keep e (by omega) (by omega)
    have go := ih (k + 1) (by omega) (carS nB nT tv z)
    have okS := (carS_ok (tv := tv) h8 h16 hp ok).1
    refine B_X_carriers_38 (brF (nI_ge (by omega) (by omega)) ((x_draw hE (by omega) z.1).use ⟨fun c => by rw [nI_z (by omega)] at c; omega, ?_⟩))
    rw [hi16, pckR _ hp (by omega)]
    refine (store_itemAt hE (by omega) S1 hkk).use ?_
    have b1 := ly_boxOf hE (L := L - 1) (by omega) Y (c := itA nB (hiN (lcg z.1) % (nB + nT)) + 1) (by omega)
    rw [bx_S, nx_S] at b1
    refine b1.use ?_
    have p8 := ok.2.2 _ hit
    rw [bx_m1 (by omega), nI_1]
    change (_ → ConI E (L - 1) m_Store_boxes 1 [] h1 _) ∧ (_ → ConI E (L - 1) m_X_carryOut 0 [.int (nI (itA nB (hiN (lcg z.1) % (nB + nT))))] h1 _)
    rw [show carR nB nT tv (m + 1) z = carR nB nT tv m (carS nB nT tv z) from rfl] at H
    refine ⟨fun c => (store_boxes hE (by omega) S1).use ?_, fun c => ?_⟩
    · rw [nI_le0 (by omega)]
      refine ⟨fun c1 => ?_, fun c1 => (x_draw hE (by omega) (lcg z.1)).use ((store_boxes hE (by omega) S1).use ⟨fun d => by rw [nI_z (by omega)] at d; omega, ?_⟩)⟩
      · have es : carS nB nT tv z = (lcg z.1, z.2.1, z.2.2) := by unfold carS; rw [if_pos c, if_pos c1]
        rw [es] at go H
        exact go h1 e ok Y H
      · rw [hi16, pckR _ (by omega) (by omega)]
        have hb : hiN (lcg (lcg z.1)) % nB < nB := Nat.mod_lt _ (by omega)
        have wn := ly_whyNotPut hE (L := L - 1 - 1) (by omega) Y S1 hit (show hiN (lcg (lcg z.1)) % nB < 24 by omega)
        by_cases c2 : rfs z.2.2.1 z.2.2.2.1 tv nB (itA nB (hiN (lcg z.1) % (nB + nT))) (hiN (lcg (lcg z.1)) % nB) = 0
        · have es : carS nB nT tv z = (lcg (lcg z.1), z.2.1 + 1, (upN z.2.2.1 (itA nB (hiN (lcg z.1) % (nB + nT))) (hiN (lcg (lcg z.1)) % nB + 1), upN z.2.2.2.1 (itA nB (hiN (lcg z.1) % (nB + nT))) (cnt z.2.2.1 (hiN (lcg (lcg z.1)) % nB + 1)), upN z.2.2.2.2.1 (itA nB (hiN (lcg z.1) % (nB + nT))) (z.2.2.2.2.2 + 1), z.2.2.2.2.2 + 1)) := by unfold carS; rw [if_pos c, if_neg (by omega), if_pos c2]
          have l1 := ly_lay hE (L := L - 1 - 1) (by omega) Y (i := itA nB (hiN (lcg z.1) % (nB + nT))) (c := hiN (lcg (lcg z.1)) % nB + 1) hit (by omega)
          rw [bx_S] at l1
          rw [es] at go okS H
          have ci : ConI E (L - 1) m_X_carryIn 0 [.int (nI (itA nB (hiN (lcg z.1) % (nB + nT)))), .int (nI (hiN (lcg (lcg z.1)) % nB))] h1 (fun y h' => y = 1 ∧ EqO (fun q => q = 4 ∨ q = 5) h1 h' ∧ LyV h' 3 (upN z.2.2.1 (itA nB (hiN (lcg z.1) % (nB + nT))) (hiN (lcg (lcg z.1)) % nB + 1)) (upN z.2.2.2.1 (itA nB (hiN (lcg z.1) % (nB + nT))) (cnt z.2.2.1 (hiN (lcg (lcg z.1)) % nB + 1)))) := B_X_carryIn hE (by omega) (wn.use (brT c2 (l1.mono (fun h2 q => ⟨rfl, q.1, q.2⟩))))
          refine ci.mono (fun y h2 q => ?_)
          obtain ⟨rfl, e2, Y2⟩ := q
          rw [nI_1]
          exact go h2 (e.trans e2) okS Y2 H
        · have es : carS nB nT tv z = (lcg (lcg z.1), z.2.1, z.2.2) := by unfold carS; rw [if_pos c, if_neg (by omega), if_neg c2]
          rw [es] at go H
          have ci : RdI E (L - 1) m_X_carryIn 0 [.int (nI (itA nB (hiN (lcg z.1) % (nB + nT)))), .int (nI (hiN (lcg (lcg z.1)) % nB))] h1 0 := B_X_carryIn hE (by omega) (wn.use (brF c2 ⟨rfl, rfl⟩))
          refine ci.use ?_
          rw [addz]
          exact go h1 e ok Y H
    · have wn := ly_whyNotTaken hE (L := L - 1 - 1) (by omega) Y hit
      by_cases c2 : 0 < lft z.2.2.1 z.2.2.2.1 (bO 0) 9 (itA nB (hiN (lcg z.1) % (nB + nT)) + 1)
      · have es : carS nB nT tv z = (lcg z.1, z.2.1, z.2.2) := by unfold carS; rw [if_neg c, if_pos c2]
        rw [es] at go H
        rw [if_pos (Or.inr c2)] at wn
        have ci : RdI E (L - 1) m_X_carryOut 0 [.int (nI (itA nB (hiN (lcg z.1) % (nB + nT))))] h1 0 := B_X_carryOut hE (by omega) (wn.use (brF (by decide) ⟨rfl, rfl⟩))
        refine ci.use ?_
        rw [addz]
        exact go h1 e ok Y H
      · have es : carS nB nT tv z = (lcg z.1, z.2.1 + 1, (upN z.2.2.1 (itA nB (hiN (lcg z.1) % (nB + nT))) 0, z.2.2.2)) := by unfold carS; rw [if_neg c, if_neg c2]
        rw [es] at go okS H
        rw [if_neg (fun w => w.elim c c2)] at wn
        have ci : ConI E (L - 1) m_X_carryOut 0 [.int (nI (itA nB (hiN (lcg z.1) % (nB + nT))))] h1 (fun y h' => y = 1 ∧ EqO (fun q => q = 4 ∨ q = 5) h1 h' ∧ LyV h' 3 (upN z.2.2.1 (itA nB (hiN (lcg z.1) % (nB + nT))) 0) z.2.2.2.1) := B_X_carryOut hE (by omega) (wn.use (brT rfl ((ly_lift hE (by omega) Y hit).mono (fun h2 q => ⟨rfl, q.1.wk (fun q z => Or.inl z), q.2⟩))))
        refine ci.mono (fun y h2 q => ?_)
        obtain ⟨rfl, e2, Y2⟩ := q
        rw [nI_1]
        exact go h2 (e.trans e2) okS Y2 H
theorem m_car (hE : EOk E) (hL : 10 ≤ L) (hp : 0 < nB + nT) {N : Nat} (hN : N ≤ 60) {post : Int32 → Hp → Prop} : ∀ m k, m + k = N → ∀ (z : Int32 × Nat × Sg) (h1 : Hp), FrM h h1 → SgOk z.2.2 → z.2.2.2.2.2 + m < 1073741824 → MdV h1 nB nT tv z.2.2.1 z.2.2.2.2.1 z.2.2.2.2.2 → (∀ h', FrM h h' → MdV h' nB nT tv (carR nB nT tv m z).2.2.1 (carR nB nT tv m z).2.2.2.2.1 (carR nB nT tv m z).2.2.2.2.2 → post (nI (carR nB nT tv m z).2.1) h') → at_M_carriers_38 E L h1 post (nI N) z.1 (nI z.2.1) (nI k) := by
  intro m
  induction m with
  | zero =>
    intro k hk z h1 f ok hc M H
    exact B_M_carriers_38 (brT (nI_le (by omega) (by omega)) (H h1 f M))
  | succ m ih =>
    intro k hk z h1 f ok hc M H
    have h8 := M.1.1
    have h16 := M.1.2.1
    have hkk : hiN (lcg z.1) % (nB + nT) < nB + nT := Nat.mod_lt _ hp
    have hit := itA_lt h8 h16 hkk
    have hII := itA_it h8 h16 hkk
    have go := ih (k + 1) (by omega) (carS nB nT tv z)
    obtain ⟨okS, ckS, -⟩ := carS_ok (tv := tv) h8 h16 hp ok
    refine B_M_carriers_38 (brF (nI_ge (by omega) (by omega)) ((m_itemMany hE (by omega) M).use ⟨fun c => by rw [nI_z (by omega)] at c; omega, ?_⟩))
    rw [show 1103515245 * z.1 + 12345 = lcg z.1 from rfl, show 1103515245 * lcg z.1 + 12345 = lcg (lcg z.1) from rfl, hi16, hi16, pckR _ hp (by omega)]
    have at1 : RdI E (L - 1) m_M_itemAt 74 [.int (nI (hiN (lcg z.1) % (nB + nT)))] h1 (nI (itA nB (hiN (lcg z.1) % (nB + nT)))) := m_itemAt hE (by omega) M (by omega)
    refine at1.use ?_
    refine (m_around hE (by omega) M hit).use ?_
    have p8 := ok.2.2 _ hit
    rw [show (0 : Int32).toNatClampNeg = 0 from rfl, M.2.1.1, bx_m1 (by omega), nI_1, nI_1, nI_le0 (by omega)]
    rw [show carR nB nT tv (m + 1) z = carR nB nT tv m (carS nB nT tv z) from rfl] at H
    refine ⟨fun c => ⟨in75 (k := 0) (by omega), fun c1 => ?_, fun c1 => ⟨in75 (k := 0) (by omega), fun d => by rw [nI_z (by omega)] at d; omega, ?_⟩⟩, fun c => ?_⟩
    · have es : carS nB nT tv z = (lcg z.1, z.2.1, z.2.2) := by unfold carS; rw [if_pos c, if_pos c1]
      rw [es] at go H
      exact go h1 f ok (show z.2.2.2.2.2 + m < _ by omega) M H
    · rw [pckR _ (by omega) (by omega)]
      have hb : hiN (lcg (lcg z.1)) % nB < nB := Nat.mod_lt _ (by omega)
      refine (m_refuses hE (by omega) M ok.1 ok.2.1 hII hb).use ?_
      by_cases c2 : rfs z.2.2.1 z.2.2.2.1 tv nB (itA nB (hiN (lcg z.1) % (nB + nT))) (hiN (lcg (lcg z.1)) % nB) = 0
      · have es : carS nB nT tv z = (lcg (lcg z.1), z.2.1 + 1, (upN z.2.2.1 (itA nB (hiN (lcg z.1) % (nB + nT))) (hiN (lcg (lcg z.1)) % nB + 1), upN z.2.2.2.1 (itA nB (hiN (lcg z.1) % (nB + nT))) (cnt z.2.2.1 (hiN (lcg (lcg z.1)) % nB + 1)), upN z.2.2.2.2.1 (itA nB (hiN (lcg z.1) % (nB + nT))) (z.2.2.2.2.2 + 1), z.2.2.2.2.2 + 1)) := by unfold carS; rw [if_pos c, if_neg (by omega), if_pos c2]
        rw [es] at go okS H
        exact brT c2 ((m_comes hE (by omega) M hit (by omega)).use (go _ (f.trans (FrM.c3 hit)) okS (show z.2.2.2.2.2 + 1 + m < _ by omega) (sC3_MsV M (by omega) hII hb) H))
      · have es : carS nB nT tv z = (lcg (lcg z.1), z.2.1, z.2.2) := by unfold carS; rw [if_pos c, if_neg (by omega), if_neg c2]
        rw [es] at go H
        exact brF c2 (go h1 f ok (show z.2.2.2.2.2 + m < _ by omega) M H)
    · have t1 := m_canBeTaken hE (L := L - 1) (by omega) M ok.1 ok.2.1 hit
      refine t1.use ?_
      rw [show (171 : Int32) = nI 171 from rfl, nI_add, nIc (by omega)]
      by_cases c2 : 0 < lft z.2.2.1 z.2.2.2.1 (bO 0) 9 (itA nB (hiN (lcg z.1) % (nB + nT)) + 1)
      · have es : carS nB nT tv z = (lcg z.1, z.2.1, z.2.2) := by unfold carS; rw [if_neg c, if_pos c2]
        rw [es] at go H
        rw [if_pos (Or.inr c2)]
        exact brT' rfl (go h1 f ok (show z.2.2.2.2.2 + m < _ by omega) M H)
      · have es : carS nB nT tv z = (lcg z.1, z.2.1 + 1, (upN z.2.2.1 (itA nB (hiN (lcg z.1) % (nB + nT))) 0, z.2.2.2)) := by unfold carS; rw [if_neg c, if_neg c2]
        rw [es] at go okS H
        rw [if_neg (fun w => w.elim c c2)]
        exact brF' (by decide) ⟨in75 (by omega), go _ (f.trans (FrM.s75 (by omega))) okS (show z.2.2.2.2.2 + m < _ by omega) (sT_MsV M hit) H⟩
theorem eq_carriers (hE : EOk E) (hL : 20 ≤ L) (I : Inv h K) (hK : K + 60 ≤ 100000) (u v : Int32) : Same E L m_X_carriers m_M_carriers [.int u, .int v] h K := by
  obtain ⟨nB, nT, tv, pk, lv, sn, ck, hck, C⟩ := I.2.1
  have h8 := C.1.2.2.2.1
  have h16 := C.1.2.2.2.2.1
  by_cases hp : 0 < nB + nT
  · by_cases hv : ∃ n, 1 ≤ n ∧ n ≤ 60 ∧ v = nI n
    · obtain ⟨n, n1, n2, rfl⟩ := hv
      have ok : SgOk (pk, lv, sn, ck) := ⟨C.2.2.2.1, C.2.2.2.2.1, fun i hi => C.2.2.1.pk8 hi⟩
      obtain ⟨k1, k2⟩ := carR_ok (tv := tv) h8 h16 hp n (u, 0, (pk, lv, sn, ck)) ok
      refine B_X_carriers hE (by omega) ((store_itemCount hE (by omega) C.1).use (brT ((nI_gt0 (by omega)).mpr hp) (brF (show ¬ nI n < nI 1 from nI_nlt n1 (by omega)) (brT (show nI n ≤ nI 60 from nI_le n2 (by omega)) ?_))))
      refine x_car (h := h) hE (L := L) (by omega) hp C.1 n2 n 0 (by omega) (u, 0, (pk, lv, sn, ck)) h EqO.rfl' ok C.2.1 ?_
      generalize hR : carR nB nT tv n (u, 0, (pk, lv, sn, ck)) = R at k1 k2
      have mm : ∀ h1, EqO (fun q => q = 4 ∨ q = 5) h h1 → LyV h1 3 R.2.2.1 R.2.2.2.1 → ConI E L m_M_carriers 74 [.int u, .int (nI n)] h1 (fun y2 h2 => nI R.2.1 = y2 ∧ Inv h2 (K + 60)) := by
        intro h1 e1 Y1
        have M1 : MdV h1 nB nT tv pk sn ck := MsV_eq C.2.2.1 (e1 75 (by omega)).2.1
        refine B_M_carriers hE (by omega) ((m_itemMany (h := sI h1 74 0 0) hE (by omega) M1).use (brF' (fun d => by rw [nI_z (by omega)] at d; omega) ((m_w_yes (a := 1) (b := 60) hE (by omega) (by omega) (by omega) (by omega)).use (brF' (by decide) ?_))))
        refine m_car (h := h1) hE (L := L) (by omega) hp n2 n 0 (by omega) (u, 0, (pk, lv, sn, ck)) (sI h1 74 0 0) FrM.thr ok (show ck + n < _ by omega) M1 ?_
        rw [hR]
        exact (fun h2 q1 q2 => ⟨rfl, inv_move I C.1 C.2.2.2.2.2 e1 q1 Y1 q2 k1.1 k1.2.1 (by have : ((u, 0, (pk, lv, sn, ck)) : Int32 × Nat × Sg).2.2.2.2.2 = ck := rfl; omega) (by omega) hK⟩)
      exact mm
    · refine same_rd (x := -3) I hK (RdX.of I.2.2.2.2.2.2 ?_) (fun h1 e I1 => ?_)
      · refine B_X_carriers hE (by omega) ((store_itemCount hE (by omega) C.1).use (brT ((nI_gt0 (by omega)).mpr hp) ?_))
        by_cases c : v < 1
        · exact brT c ⟨rfl, rfl⟩
        · refine brF c (brF (fun z => hv ?_) ⟨rfl, rfl⟩)
          rw [i32_lt] at c
          rw [i32_le] at z
          have a1 : (1 : Int32).toInt = 1 := rfl
          have a2 : (60 : Int32).toInt = 60 := rfl
          refine ⟨v.toInt.toNat, by omega, by omega, ?_⟩
          rw [i32_eq, nI_int (by omega)]; omega
      · exact B_M_carriers hE (by omega) ((m_itemMany (h := sI h1 74 0 0) hE (by omega) (C.keep e).2.2.1).use (brF' (fun d => by rw [nI_z (by omega)] at d; omega) ((m_w_no (a := 1) (b := 60) hE (by omega) (by omega) (by omega) hv).use (brT' rfl ⟨rfl, thr_eq _, I1.2.2.2.2.2.2⟩))))
  · have h0 : nB + nT = 0 := by omega
    refine same_rd (x := -5) I hK (RdX.of I.2.2.2.2.2.2 ?_) (fun h1 e I1 => ?_)
    · exact B_X_carriers hE (by omega) ((store_itemCount hE (by omega) C.1).use (brF (fun z => hp ((nI_gt0 (by omega)).mp z)) ⟨rfl, rfl⟩))
    · exact B_M_carriers hE (by omega) ((m_itemMany (h := sI h1 74 0 0) hE (by omega) (C.keep e).2.2.1).use (brT' ((nI_z (by omega)).mpr h0) ⟨rfl, thr_eq _, I1.2.2.2.2.2.2⟩))
end Carry
