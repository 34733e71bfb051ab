/-! ===== Layout, on: weights, room, refusals; laying, lifting, acts ===== -/
theorem sub_le {a l w : Nat} (ha : a < 1073741824) (hl : l < 1073741824) (hw : w < 1073741824) : nI w ≤ nI a - nI l ↔ l + w ≤ a := by
  rw [i32_le, nI_int (by omega), pk_sub_toInt ha hl]; omega
theorem min_le {x y z : Int32} : x ≤ (if y < z then y else z) ↔ x ≤ y ∧ x ≤ z := by
  by_cases c : y < z
  · rw [if_pos c]; rw [i32_lt] at c; rw [i32_le, i32_le]; omega
  · rw [if_neg c]; rw [i32_lt] at c; rw [i32_le, i32_le]; omega
section LayoutC
variable {E : EnvX} {L : Nat} {h : Hp} {r : Nat} {pk lv : Nat → Nat} {nB nT : Nat} {tv : Nat → Nat → Nat}
theorem ly_spareLoad (hE : EOk E) (hL : 3 ≤ L) (Y : LyV h r pk lv) (S : StV h (rf r 0) nB nT tv) {b : Nat} (hb : b < 24) : ConI E L m_Layout_spareLoad r [.int (nI b)] h (fun y h' => h' = h ∧ ∀ w, w < 1000000 → (nI w ≤ y ↔ brs pk tv w 9 (b + 1) = true)) := by
  have ht : ∀ i k, i < 24 → k < 7 → tv i k ≤ 9999 := fun i k hi hk => (S.2.2.2.2.2 i k hi hk).2
  have hlod := fun c => lod_le (pk := pk) (tv := tv) (fun i hi => ht i 2 hi (by omega)) c
  have main : ∀ n k (acc : Int32) c (Pw : Nat → Bool), n + k = 8 → c ≤ 24 → (∀ w, w < 1000000 → (nI w ≤ acc ↔ Pw w = true)) → at_Layout_spareLoad_26 E L r h (fun y h' => h' = h ∧ ∀ w, w < 1000000 → (nI w ≤ y ↔ (Pw w && brs pk tv w n c) = true)) acc (bx c) (nI k) := by
    intro n
    induction n with
    | zero =>
      intro k acc c Pw hk hc hp
      rw [show k = 8 by omega]
      refine B_Layout_spareLoad_26 (brT (nEnd 8) ⟨rfl, fun w hw => ?_⟩)
      rw [hp w hw]; simp [brs]
    | succ n ih =>
      intro k acc c Pw hk hc hp
      refine B_Layout_spareLoad_26 (brF (nG 8 (by omega)) ?_)
      cases c with
      | zero =>
        refine brT (by decide) ⟨rfl, fun w hw => ?_⟩
        rw [hp w hw]; simp [brs]
      | succ i =>
        rw [bx_S]
        have h1 := ly_loadOf hE (L := L - 1) (by omega) Y S (c := i + 1) (by omega) (by omega)
        have h2 := ly_boxOf hE (L := L - 1) (by omega) Y (c := i + 1) (by omega)
        rw [bx_S] at h1 h2
        refine brF (nIm1 (by omega)) ((store_told hE (by omega) S (i := i) (k := 6) (by omega) (by omega)).use (h1.use ⟨rfl, h2.use ?_⟩))
        rw [nI_1]
        have h3 := ih (k + 1) (if nI (tv i 6) - nI (lod pk tv (i + 1)) < acc then nI (tv i 6) - nI (lod pk tv (i + 1)) else acc) (nx pk (i + 1)) (fun w => Pw w && decide (lod pk tv (i + 1) + w ≤ tv i 6)) (by omega) (by have := nx_le Y (c := i + 1) (by omega); omega) (fun w hw => by
          have q1 := ht i 6 (by omega) (by omega)
          have q2 := hlod (i + 1)
          rw [min_le, sub_le (by omega) (by omega) (by omega), hp w hw, Bool.and_eq_true, decide_eq_true_eq]
          exact And.comm)
        have e : ∀ w, (Pw w && brs pk tv w (n + 1) (i + 1)) = ((Pw w && decide (lod pk tv (i + 1) + w ≤ tv i 6)) && brs pk tv w n (nx pk (i + 1))) := fun w => by
          simp only [brs, if_neg (Nat.succ_ne_zero i), Nat.add_sub_cancel, Bool.and_assoc]
        simp only [e]
        exact h3
  have q1 := ht b 6 hb (by omega)
  have q2 := hlod (b + 1)
  refine B_Layout_spareLoad hE (by omega) Y.1 ((store_told hE (by omega) S (i := b) (k := 6) hb (by omega)).use ?_)
  have h1 := ly_loadOf hE (L := L - 1) (by omega) Y S (c := b + 1) (by omega) (by omega)
  have h2 := ly_boxOf hE (L := L - 1) (by omega) Y (c := b + 1) (by omega)
  rw [bx_S] at h1 h2
  refine h1.use (h2.use ?_)
  have h3 := main 8 0 (nI (tv b 6) - nI (lod pk tv (b + 1))) (nx pk (b + 1)) (fun w => decide (lod pk tv (b + 1) + w ≤ tv b 6)) (by omega) (by have := nx_le Y (c := b + 1) (by omega); omega) (fun w hw => by rw [sub_le (by omega) (by omega) (by omega), decide_eq_true_eq])
  have e : ∀ w, brs pk tv w 9 (b + 1) = (decide (lod pk tv (b + 1) + w ≤ tv b 6) && brs pk tv w 8 (nx pk (b + 1))) := fun w => by
    rw [brs, if_neg (Nat.succ_ne_zero b), Nat.add_sub_cancel]
  simp only [e]
  exact h3
theorem hasBoxI (hE : EOk E) (hL : 1 ≤ L) {q i : Nat} (S : StV h q nB nT tv) (hi : i < 24) : RdI E L m_Store_hasBox q [.long (nI i).toInt64] h (if i < nB then 1 else 0) := by
  rw [nI_l (by omega)]
  by_cases c : i < nB
  · rw [if_pos c]; exact hasBox_yes hE hL S c
  · rw [if_neg c]
    refine hasBox_no hE hL S (fun b hb e => c ?_)
    have h8 := S.2.2.2.1
    have := (pk_lEQ (a := i) (b := b) (by omega) (by omega)).mp e
    omega
theorem ly_heftOf (hE : EOk E) (hL : 3 ≤ L) (Y : LyV h r pk lv) (S : StV h (rf r 0) nB nT tv) {i : Nat} (hi : i < 24) : RdI E L m_Layout_heftOf r [.int (nI i)] h (nI (hft pk tv nB i)) := by
  have h1 := ly_loadOf hE (L := L - 1) (by omega) Y S (c := i + 1) (by omega) (by omega)
  rw [bx_S] at h1
  refine B_Layout_heftOf hE (by omega) Y.1 ((store_told hE (by omega) S (i := i) (k := 2) hi (by omega)).use ((hasBoxI hE (by omega) S hi).use ?_))
  unfold hft
  by_cases c : i < nB
  · rw [if_pos c, if_pos c]
    refine brF (by decide) (h1.use ⟨?_, rfl⟩)
    rw [nI_add]
  · rw [if_neg c, if_neg c]
    refine brT rfl ⟨?_, rfl⟩
    rw [show (0 : Int32) = nI 0 from rfl, nI_add]
theorem hlv_lt (pk : Nat → Nat) (c : Nat) : hlv pk c < 10 := by
  have : sE (fun i => if pk i = c then 1 else 0) 8 ≤ 8 * 1 := sE_le (fun k _ => by split <;> omega)
  unfold hlv; split <;> omega
theorem rom_le {pk : Nat → Nat} {tv : Nat → Nat → Nat} {b n : Nat} (h1 : tv b 0 ≤ 9999) (h2 : tv b 5 ≤ 9999) : rom pk tv b n ≤ 99980001 := by
  unfold rom
  exact Nat.le_trans (Nat.div_le_self _ _) (Nat.mul_le_mul h1 h2)
theorem ly_hasRoomFor (hE : EOk E) (hL : 3 ≤ L) (Y : LyV h r pk lv) (S : StV h (rf r 0) nB nT tv) {i b : Nat} (hi : i < 24) (hb : b < 24) : RdI E L m_Layout_hasRoomFor r [.int (nI i), .int (nI b)] h (if hrf pk tv nB i b = true then 1 else 0) := by
  have ht : ∀ i k, i < 24 → k < 7 → tv i k ≤ 9999 := fun i k hi hk => (S.2.2.2.2.2 i k hi hk).2
  have hfl := fun c => fil_le (pk := pk) (tv := tv) (fun i hi => ht i 0 hi (by omega)) c
  have f1 := ly_fillOf hE (L := L - 1) (by omega) Y S (c := b + 1) (by omega)
  have f2 := ly_fillOf hE (L := L - 1) (by omega) Y S (c := i + 1) (by omega)
  have g1 := ly_halvedOf hE (L := L - 1) (by omega) Y (c := b + 1) (by omega)
  have g2 := ly_halvedOf hE (L := L - 1) (by omega) Y (c := i + 1) (by omega)
  rw [bx_S] at f1 f2 g1 g2
  have z1 := hlv_lt pk (b + 1)
  have z2 := hlv_lt pk (i + 1)
  have y1 := hfl (b + 1)
  have y2 := hfl (i + 1)
  have y3 := ht i 0 hi (by omega)
  have r1 := rom_le (pk := pk) (b := b) (n := hlv pk (b + 1) + 1) (ht b 0 hb (by omega)) (ht b 5 hb (by omega))
  have r2 := rom_le (pk := pk) (b := i) (n := hlv pk (i + 1) + 1) (ht i 0 hi (by omega)) (ht i 5 hi (by omega))
  have r3 := rom_le (pk := pk) (b := b) (n := hlv pk (b + 1)) (ht b 0 hb (by omega)) (ht b 5 hb (by omega))
  unfold rom at r1 r2 r3
  refine B_Layout_hasRoomFor hE (by omega) Y.1 (f1.use ((store_told hE (by omega) S (i := i) (k := 0) hi (by omega)).use ((hasBoxI hE (by omega) S hi).use ?_)))
  unfold hrf rom
  by_cases c : i < nB
  · rw [if_pos c, if_pos c]
    refine brF' (by decide) (g1.use ?_)
    rw [nI_1]
    refine (store_roomOf hE (by omega) S hb (by omega)).use ?_
    rw [nI_add, nIt (by omega) (by omega)]
    refine ⟨fun q => ?_, fun q => f2.use (g2.use ?_)⟩
    · rw [if_neg (fun z => by rw [Bool.and_eq_true, decide_eq_true_eq, decide_eq_true_eq] at z; omega)]; exact ⟨rfl, rfl⟩
    · rw [nI_1]
      refine (store_roomOf hE (by omega) S hi (by omega)).use ?_
      rw [nIt (by omega) (by omega)]
      refine ⟨fun q2 => ?_, fun q2 => ?_⟩
      · rw [if_neg (fun z => by rw [Bool.and_eq_true, decide_eq_true_eq, decide_eq_true_eq] at z; omega)]; exact ⟨rfl, rfl⟩
      · rw [if_pos (by rw [Bool.and_eq_true, decide_eq_true_eq, decide_eq_true_eq]; omega)]; exact ⟨rfl, rfl⟩
  · rw [if_neg c, if_neg c]
    refine brT' rfl (g1.use ((store_roomOf hE (by omega) S hb (by omega)).use ?_))
    rw [nI_add, nIt (by omega) (by omega)]
    refine ⟨fun q => ?_, fun q => ?_⟩
    · rw [if_neg (fun z => by rw [decide_eq_true_eq] at z; omega)]; exact ⟨rfl, rfl⟩
    · rw [if_pos (by rw [decide_eq_true_eq]; omega)]; exact ⟨rfl, rfl⟩
theorem ly_whyNotPut (hE : EOk E) (hL : 4 ≤ L) (Y : LyV h r pk lv) (S : StV h (rf r 0) nB nT tv) {i b : Nat} (hi : i < 24) (hb : b < 24) : RdI E L m_Layout_whyNotPut r [.int (nI i), .int (nI b)] h (rfs pk lv tv nB i b) := by
  have ht : ∀ i k, i < 24 → k < 7 → tv i k ≤ 9999 := fun i k hi hk => (S.2.2.2.2.2 i k hi hk).2
  have hlod := fun c => lod_le (pk := pk) (tv := tv) (fun i hi => ht i 2 hi (by omega)) c
  have b1 := ly_boxOf hE (L := L - 1) (by omega) Y (c := i + 1) (by omega)
  have l1 := ly_liftings hE (L := L - 1) (by omega) Y (c := b + 1) (by omega) 0
  have w1 := ly_isWithin hE (L := L - 1) (by omega) Y (c := b + 1) (d := i + 1) (by omega) (by omega) (by omega)
  rw [bx_S] at b1 l1 w1
  rw [bx_S] at w1
  have hp := Y.2.1 i hi
  have hll := lft_le pk lv (bO 0) 9 (b + 1)
  have q1 := ht i 1 hi (by omega)
  have q2 := ht b 4 hb (by omega)
  have q3 : hft pk tv nB i < 1000000 := by
    have a1 := ht i 2 hi (by omega)
    have a2 := hlod (i + 1)
    unfold hft; split <;> omega
  refine B_Layout_whyNotPut hE (by omega) Y.1 (b1.use ?_)
  have en : nx pk (i + 1) = pk i := by simp [nx]
  rw [en, bx_m1 (by omega)]
  refine ⟨fun c => ?_, fun c => l1.use ?_⟩
  · exact ⟨by unfold rfs; rw [if_pos c], rfl⟩
  have d1 : ¬ pk i ≠ 0 := fun z => z c
  rw [nI_le0 (by omega)]
  refine ⟨fun c2 => ?_, fun c2 => ?_⟩
  · have d2 : ¬ 0 < lft pk lv (bO 0) 9 (b + 1) := by omega
    rw [nIe (by omega) (by omega)]
    refine ⟨fun c3 => ?_, fun c3 => w1.use ?_⟩
    · exact ⟨by unfold rfs; rw [if_neg d1, if_neg d2, if_pos c3], rfl⟩
    by_cases c4 : wi pk (i + 1) 8 (b + 1) = true
    · rw [if_pos c4]; exact brF (by decide) ⟨by unfold rfs; rw [if_neg d1, if_neg d2, if_neg c3, if_pos c4], rfl⟩
    rw [if_neg c4]
    refine brT rfl ((store_told hE (by omega) S (i := i) (k := 1) hi (by omega)).use ((store_told hE (by omega) S (i := b) (k := 4) hb (by omega)).use ?_))
    rw [nIl (by omega) (by omega)]
    refine ⟨fun c5 => (ly_heftOf hE (by omega) Y S hi).use ((ly_spareLoad hE (by omega) Y S hb).mono (fun y h' e => ?_)), fun c5 => ?_⟩
    · obtain ⟨rfl, e⟩ := e
      have d5 : ¬ tv b 4 < tv i 1 := by omega
      rw [e _ q3]
      refine ⟨fun c6 => (ly_hasRoomFor hE (by omega) Y S hi hb).use ?_, fun c6 => ?_⟩
      · have d6 : ¬ brs pk tv (hft pk tv nB i) 9 (b + 1) = false := by rw [c6]; decide
        by_cases c7 : hrf pk tv nB i b = true
        · have d7 : ¬ hrf pk tv nB i b = false := by rw [c7]; decide
          rw [if_pos c7]; exact brF (by decide) ⟨by unfold rfs; rw [if_neg d1, if_neg d2, if_neg c3, if_neg c4, if_neg d5, if_neg d6, if_neg d7], rfl⟩
        · have d7 : hrf pk tv nB i b = false := by simpa using c7
          rw [if_neg c7]; exact brT rfl ⟨by unfold rfs; rw [if_neg d1, if_neg d2, if_neg c3, if_neg c4, if_neg d5, if_neg d6, if_pos d7], rfl⟩
      · have d6 : brs pk tv (hft pk tv nB i) 9 (b + 1) = false := by simpa using c6
        exact ⟨by unfold rfs; rw [if_neg d1, if_neg d2, if_neg c3, if_neg c4, if_neg d5, if_pos d6], rfl⟩
    · have d5 : tv b 4 < tv i 1 := by omega
      exact ⟨by unfold rfs; rw [if_neg d1, if_neg d2, if_neg c3, if_neg c4, if_pos d5], rfl⟩
  · have d2 : 0 < lft pk lv (bO 0) 9 (b + 1) := by omega
    exact ⟨by unfold rfs; rw [if_neg d1, if_pos d2], rfl⟩
theorem ly_whyNotTaken (hE : EOk E) (hL : 4 ≤ L) (Y : LyV h r pk lv) {i : Nat} (hi : i < 24) : RdI E L m_Layout_whyNotTaken r [.int (nI i)] h (if pk i = 0 ∨ 0 < lft pk lv (bO 0) 9 (i + 1) then -5 else 0) := by
  have b1 := ly_boxOf hE (L := L - 1) (by omega) Y (c := i + 1) (by omega)
  have l1 := ly_liftings hE (L := L - 1) (by omega) Y (c := i + 1) (by omega) 0
  rw [bx_S] at b1 l1
  have hp := Y.2.1 i hi
  have hll := lft_le pk lv (bO 0) 9 (i + 1)
  refine B_Layout_whyNotTaken hE (by omega) Y.1 (b1.use ?_)
  have en : nx pk (i + 1) = pk i := by simp [nx]
  rw [en, bx_m1 (by omega)]
  refine ⟨fun c => ?_, fun c => l1.use ?_⟩
  · rw [if_pos (Or.inl c)]; exact ⟨rfl, rfl⟩
  rw [nI_le0 (by omega)]
  refine ⟨fun c2 => ?_, fun c2 => ?_⟩
  · rw [if_neg (by omega)]; exact ⟨rfl, rfl⟩
  · rw [if_pos (Or.inr (by omega))]; exact ⟨rfl, rfl⟩
/-! laying and lifting -/
def upN (f : Nat → Nat) (i v : Nat) : Nat → Nat := fun k => if k = i then v else f k
theorem ly_lay (hE : EOk E) (hL : 2 ≤ L) (Y : LyV h r pk lv) {i c : Nat} (hi : i < 24) (hc : c ≤ 8) : ConV E L m_Layout_lay r [.int (nI i), .int (bx c)] h (fun h' => EqO (fun q => q = r + 1 ∨ q = r + 2) h h' ∧ LyV h' r (upN pk i c) (upN lv i (cnt pk c))) := by
  obtain ⟨s1, s2, s3, s4, s5, s6, -⟩ := sh_layout Y.1
  refine B_Layout_lay hE (by omega) Y.1 (brF (nIneg (by omega)) (brF (nG 24 hi) ((ly_manyIn hE (by omega) Y (c := c) (by omega)).use ?_)))
  rw [s1, s2, nIc (by omega)]
  refine ⟨inI_of s5 (by omega) (by omega), inI_of s3 (by omega) (by omega), (EqO.sA (Or.inr rfl)).trans (EqO.sA (Or.inl rfl)), Y.1, fun k hk => ?_, fun k hk => ?_⟩
  · rw [sA_A, if_pos rfl, sA_A, if_neg (show ¬ r + 1 = r + 2 by omega)]
    unfold upN
    by_cases e : k = i
    · rw [if_pos e, if_pos e]; exact ⟨rfl, hc⟩
    · rw [if_neg e, if_neg e]; exact Y.2.1 k hk
  · rw [sA_A, if_neg (show ¬ r + 2 = r + 1 by omega), sA_A, if_pos rfl]
    unfold upN
    by_cases e : k = i
    · rw [if_pos e, if_pos e]; exact ⟨rfl, cnt_le pk c⟩
    · rw [if_neg e, if_neg e]; exact Y.2.2 k hk
theorem ly_setBox (hE : EOk E) (hL : 1 ≤ L) (Y : LyV h r pk lv) {i c : Nat} (hi : i < 24) (hc : c ≤ 8) : ConV E L m_Layout_setBox r [.int (nI i), .int (bx c)] h (fun h' => EqO (fun q => q = r + 1) h h' ∧ LyV h' r (upN pk i c) lv) := by
  obtain ⟨s1, s2, s3, s4, s5, s6, -⟩ := sh_layout Y.1
  refine B_Layout_setBox hE hL Y.1 (brF (nIneg (by omega)) (brF (nG 24 hi) ?_))
  rw [s1, nIc (by omega)]
  refine ⟨inI_of s3 (by omega) (by omega), EqO.sA rfl, Y.1, fun k hk => ?_, fun k hk => ?_⟩
  · rw [sA_A, if_pos rfl]
    unfold upN
    by_cases e : k = i
    · rw [if_pos e, if_pos e]; exact ⟨rfl, hc⟩
    · rw [if_neg e, if_neg e]; exact Y.2.1 k hk
  · rw [sA_A, if_neg (by omega)]; exact Y.2.2 k hk
theorem ly_lift (hE : EOk E) (hL : 2 ≤ L) (Y : LyV h r pk lv) {i : Nat} (hi : i < 24) : ConV E L m_Layout_lift r [.int (nI i)] h (fun h' => EqO (fun q => q = r + 1) h h' ∧ LyV h' r (upN pk i 0) lv) :=
  B_Layout_lift hE (by omega) Y.1 (ly_setBox hE (by omega) Y hi (c := 0) (by omega))
theorem ly_clear (hE : EOk E) (hL : 2 ≤ L) (hr : cls r = 2) : ConV E L m_Layout_clear r [] h (fun h' => EqO (fun q => q = r + 1 ∨ q = r + 2) h h' ∧ LyV h' r (fun _ => 0) (fun _ => 0)) := by
  obtain ⟨s1, s2, s3, s4, s5, s6, -⟩ := sh_layout hr
  refine B_Layout_clear hE (by omega) hr ?_
  rw [s1, s2]
  refine (fillI_ok hE (by omega) s3 (by omega)).mono (fun h1 q1 => (fillI_ok hE (by omega) s5 (by omega)).mono (fun h2 q2 => ⟨(q1.1.wk (fun z hz => Or.inl hz)).trans (q2.1.wk (fun z hz => Or.inr hz)), hr, fun k hk => ?_, fun k hk => ?_⟩))
  · rw [(q2.1 (r + 1) (by omega)).2.1]
    exact ⟨q1.2 k (by omega), Nat.zero_le _⟩
  · exact ⟨q2.2 k (by omega), Nat.zero_le _⟩
theorem ly_takeFrom (hE : EOk E) (hL : 1 ≤ L) {r2 : Nat} (hr : cls r = 2) (Y : LyV h r2 pk lv) (hd : (r2 + 1 ≠ r + 1 ∧ r2 + 2 ≠ r + 2) ∧ r2 + 2 ≠ r + 1) : ConV E L m_Layout_takeFrom r [.ref r2] h (fun h' => EqO (fun q => q = r + 1 ∨ q = r + 2) h h' ∧ LyV h' r pk lv) := by
  obtain ⟨s1, s2, s3, s4, s5, s6, -⟩ := sh_layout hr
  obtain ⟨t1, t2, t3, t4, t5, t6, -⟩ := sh_layout Y.1
  refine B_Layout_takeFrom hE hL hr ?_
  have e0 : (0 : Int32).toNatClampNeg = 0 := rfl
  have e24 : (24 : Int32).toNatClampNeg = 24 := rfl
  rw [e0, e24]
  rw [s1, s2, t1, t2]
  refine ⟨Y.1, rfl, ⟨t3, s3, hd.1.1, by decide, by decide, by decide, by omega, by omega⟩, Y.1, rfl, ⟨t5, s5, hd.1.2, by decide, by decide, by decide, by omega, by omega⟩, (EqO.sC (Or.inl rfl)).trans (EqO.sC (Or.inr rfl)), hr, fun k hk => ?_, fun k hk => ?_⟩
  · rw [sC_A, if_neg (show ¬ r + 1 = r + 2 by omega), sC_A, if_pos rfl, if_pos (by omega), Nat.zero_add, Nat.sub_zero]; exact Y.2.1 k hk
  · rw [sC_A, if_pos rfl, if_pos (by omega), Nat.zero_add, Nat.sub_zero, sC_A, if_neg hd.2]; exact Y.2.2 k hk
end LayoutC
