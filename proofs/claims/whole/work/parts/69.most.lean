section MostP
def bt (v : Int32) (i : Nat) : Bool := v.toBitVec.getLsbD i
theorem bt_test (v : Int32) {i : Nat} (hi : i < 24) : (v >>> (nI i &&& 31)) &&& 1 = if bt v i = true then 1 else 0 := by
  rw [sh31 hi, pk_and _ 1 (by decide), sshr v (by omega)]
  have h2 := BitVec.getLsbD_sshiftRight v.toBitVec i 0
  rw [BitVec.getLsbD] at h2
  have h4 : (v.toBitVec.sshiftRight i).toNat % 2 ^ 1 = if bt v i = true then 1 else 0 := by
    rw [Nat.pow_one]
    have h5 : (v.toBitVec.sshiftRight i).toNat.testBit 0 = bt v i := by
      rw [h2]
      unfold bt
      simp [show i < 32 by omega]
    rw [Nat.testBit_zero] at h5
    by_cases c : bt v i = true
    · rw [if_pos c]; rw [c] at h5; exact of_decide_eq_true h5
    · rw [if_neg c]
      have c2 : bt v i = false := by simpa using c
      rw [c2] at h5
      have := of_decide_eq_false h5
      omega
  rw [h4]
  by_cases c : bt v i = true
  · rw [if_pos c, if_pos c]; rfl
  · rw [if_neg c, if_neg c]; rfl
theorem bO_bt (v : Int32) {i : Nat} (hi : i < 24) : bO v i = bt v i := by
  have := bt_test v hi
  by_cases c : bt v i = true
  · rw [if_pos c] at this; rw [c]; exact bO_t (by rw [this]; decide)
  · rw [if_neg c] at this; rw [show bt v i = false by simpa using c]; exact bO_f this
theorem bt_and (v w : Int32) (i : Nat) : bt (v &&& w) i = (bt v i && bt w i) := by unfold bt; rw [Int32.toBitVec_and, BitVec.getLsbD_and]
theorem bt_del (v : Int32) {i j : Nat} (hi : i < 24) (hj : j < 32) : bt (v &&& (((1 : Int32) <<< (nI i &&& 31)) ^^^ (-1))) j = (bt v j && !(decide (i = j))) := by
  unfold bt
  rw [Int32.toBitVec_and, BitVec.getLsbD_and, not_shl hi, BitVec.getLsbD_not, BitVec.getLsbD_twoPow]
  by_cases d : i = j
  · simp [d, hj]
  · simp [d, hj]
def tAll (nT : Nat) : Int32 := (((1 : Int32) <<< (nI nT &&& 31)) - 1) <<< ((8 : Int32) &&& 31)
def iAll (nB nT : Nat) : Int32 := (((1 : Int32) <<< (nI nB &&& 31)) - 1) ||| tAll nT
theorem bt_tAll {nT i : Nat} (hT : nT < 17) (hi : i < 32) : bt (tAll nT) i = decide (8 ≤ i ∧ i < 8 + nT) := (show ∀ nT, nT < 17 → ∀ i, i < 32 → bt (tAll nT) i = decide (8 ≤ i ∧ i < 8 + nT) by decide +kernel) nT hT i hi
theorem bt_iAll {nB nT i : Nat} (hB : nB < 9) (hT : nT < 17) (hi : i < 32) : bt (iAll nB nT) i = (decide (i < nB) || decide (8 ≤ i ∧ i < 8 + nT)) := by
  have h1 : bt (iAll nB nT) i = (bt (((1 : Int32) <<< (nI nB &&& 31)) - 1) i || bt (tAll nT) i) := by unfold bt iAll; rw [Int32.toBitVec_or, BitVec.getLsbD_or]
  rw [h1, bt_tAll hT hi, (show ∀ nB, nB < 9 → ∀ i, i < 32 → bt (((1 : Int32) <<< (nI nB &&& 31)) - 1) i = decide (i < nB) by decide +kernel) nB hB i hi]
theorem only_bt {v w : Int32} (h : v &&& (w ^^^ (-1)) = 0) {i : Nat} (hi : i < 32) (hv : bt v i = true) : bt w i = true := by
  have h1 : bt (v &&& (w ^^^ (-1))) i = false := by rw [h]; unfold bt; exact (show ∀ i, i < 32 → (0 : Int32).toBitVec.getLsbD i = false by decide) i hi
  rw [bt_and, hv, Bool.true_and] at h1
  unfold bt at h1 ⊢
  rw [Int32.toBitVec_xor, BitVec.getLsbD_xor, (show ∀ i, i < 32 → (-1 : Int32).toBitVec.getLsbD i = true by decide) i hi] at h1
  cases hh : w.toBitVec.getLsbD i
  · rw [hh] at h1; cases h1
  · rfl
theorem nlt_le {a b : Int32} : ¬ a < b ↔ b ≤ a := by rw [i32_lt, i32_le]; omega
/-- the first best by worth among those that may be -/
def wbst (f : Nat → Nat) (p : Nat → Bool) : Nat → Nat
  | 0 => 0
  | c + 1 => if f (wbst f p c) < f c ∧ p c = true then c else wbst f p c
theorem wbst_le (f : Nat → Nat) (p : Nat → Bool) : ∀ c, wbst f p c ≤ c
  | 0 => Nat.le_refl _
  | c + 1 => by
    have := wbst_le f p c
    show (if f (wbst f p c) < f c ∧ p c = true then c else wbst f p c) ≤ c + 1
    split <;> omega
theorem wbst_1 (f : Nat → Nat) (p : Nat → Bool) : wbst f p 1 = 0 := by
  show (if f 0 < f 0 ∧ p 0 = true then 0 else 0) = 0
  split <;> rfl
theorem wbst_s (f : Nat → Nat) (p : Nat → Bool) (c : Nat) : wbst f p (c + 1) = if f (wbst f p c) < f c ∧ p c = true then c else wbst f p c := rfl
theorem wbst_lt (f : Nat → Nat) (p : Nat → Bool) {c : Nat} (hc : 0 < c) : wbst f p c < c := by
  induction c with
  | zero => omega
  | succ c ih =>
    rw [wbst_s]
    split
    · omega
    · have := wbst_le f p c; omega
end MostP
section Most
variable {E : EnvX} {L : Nat} {h : Hp} {K : Nat} {nB nT : Nat} {tv : Nat → Nat → Nat} {pk lv sn : Nat → Nat} {ck : Nat}
theorem st_thingBits (hE : EOk E) (hL : 1 ≤ L) (S : StV h 1 nB nT tv) : RdI E L m_Store_thingBits 1 [] h (tAll nT) := by
  refine B_Store_thingBits hE hL S.1 ⟨?_, rfl⟩
  rw [S.2.2.1]; rfl
theorem st_itemBits (hE : EOk E) (hL : 2 ≤ L) (S : StV h 1 nB nT tv) : RdI E L m_Store_itemBits 1 [] h (iAll nB nT) := by
  have b1 : RdI E (L - 1) m_Store_boxBits 1 [] h (((1 : Int32) <<< (nI nB &&& 31)) - 1) := B_Store_boxBits hE (by omega) S.1 ⟨by rw [S.2.1], rfl⟩
  exact B_Store_itemBits hE (by omega) S.1 (b1.use ((st_thingBits hE (by omega) S).use ⟨rfl, rfl⟩))
theorem x_hasOnly (hE : EOk E) (hL : 1 ≤ L) (v w : Int32) : RdI E L m_X_hasOnly 0 [.int v, .int w] h (if v &&& (w ^^^ (-1)) = 0 then 1 else 0) := by
  refine B_X_hasOnly hE hL ⟨fun c => ?_, fun c => ?_⟩
  · rw [if_neg c]; exact ⟨rfl, rfl⟩
  · rw [if_pos c]; exact ⟨rfl, rfl⟩
theorem m_thingsAll (hE : EOk E) (hL : 1 ≤ L) (M : MdV h nB nT tv pk sn ck) : RdI E L m_M_thingsAll 74 [] h (tAll nT) := by
  refine B_M_thingsAll hE hL ⟨in75 (k := 1) (by omega), ?_, rfl⟩
  rw [show h.2.1 75 (1 : Int32).toNatClampNeg = nI nT from M.2.1.2.1]; rfl
theorem m_itemsAll (hE : EOk E) (hL : 1 ≤ L) (M : MdV h nB nT tv pk sn ck) : RdI E L m_M_itemsAll 74 [] h (iAll nB nT) := by
  refine B_M_itemsAll hE hL ⟨in75 (k := 0) (by omega), in75 (k := 1) (by omega), ?_, rfl⟩
  rw [show h.2.1 75 (1 : Int32).toNatClampNeg = nI nT from M.2.1.2.1, show h.2.1 75 (0 : Int32).toNatClampNeg = nI nB from M.2.1.1]; rfl
theorem ly_onFloor (hE : EOk E) (hL : 1 ≤ L) (Y : LyV h 3 pk lv) (v : Int32) : ConI E L m_Layout_onFloor 3 [.int v] h (fun y h' => h' = h ∧ ∀ i, i < 24 → bt y i = (bt v i && decide (pk i = 0))) := by
  refine B_Layout_onFloor hE hL Y.1 ?_
  refine upto (P := fun k => ∀ u, (∀ i, i < 24 → bt u i = (bt v i && !(decide (i < k ∧ pk i ≠ 0)))) → at_Layout_onFloor_4 E L 3 h _ u (nI k)) (n := 24) (fun u a => ?_) (fun k hk ih u a => ?_) 0 (by omega) v (fun i _ => by rw [decide_eq_false (fun z => Nat.not_lt_zero i z.1)]; simp)
  · refine B_Layout_onFloor_4 (brT (nEnd 24) ⟨rfl, fun i hi => ?_⟩)
    rw [a i hi]
    by_cases q : pk i = 0
    · rw [decide_eq_true q, decide_eq_false (fun z => z.2 q)]; rfl
    · rw [decide_eq_false q, decide_eq_true ⟨hi, q⟩]; rfl
  · obtain ⟨s1, s2, s3, s4, -⟩ := sh_layout Y.1
    have hp := Y.2.1 k hk
    refine B_Layout_onFloor_4 (brF (nG 24 hk) ?_)
    rw [s1, nIc (by omega), hp.1, nI_1, bx_m1 (by omega)]
    refine ⟨inI_of s3 (by omega) (by omega), fun q => ih u (fun i hi => ?_), fun q => ih _ (fun i hi => ?_)⟩
    · rw [a i hi]
      by_cases d : i = k
      · subst d; rw [decide_eq_false (fun z => z.2 q), decide_eq_false (fun z => z.2 q)]
      · rw [show decide (i < k ∧ pk i ≠ 0) = decide (i < k + 1 ∧ pk i ≠ 0) from decide_eq_decide.mpr ⟨fun z => ⟨by omega, z.2⟩, fun z => ⟨by omega, z.2⟩⟩]
    · rw [bt_del u hk (by omega), a i hi]
      by_cases d : k = i
      · subst d; rw [decide_eq_true rfl, decide_eq_true (show k < k + 1 ∧ pk k ≠ 0 from ⟨by omega, q⟩)]; simp
      · rw [decide_eq_false d, show decide (i < k ∧ pk i ≠ 0) = decide (i < k + 1 ∧ pk i ≠ 0) from decide_eq_decide.mpr ⟨fun z => ⟨by omega, z.2⟩, fun z => ⟨by omega, z.2⟩⟩]; simp
theorem pc_passes (hE : EOk E) (hL : 4 ≤ L) (S : StV h 1 nB nT tv) {n c lid : Nat} {mem : Nat → Nat} (P : PcV h n mem tv) (hc : c < 2 ^ n) (hlid : lid < 100000) {y z : Int32} {Pw Ps : Nat → Bool} (hw : ∀ w, w < 1000000 → (nI w ≤ y ↔ Pw w = true)) (hs : ∀ w, w < 1000000 → (nI w ≤ z ↔ Ps w = true)) : RdI E L m_Picked_passes 39 [.int (nI c), .int (nI lid), .int y, .int z] h (if (psB tv mem n c lid && (Pw (sF tv mem 2 n c) && Ps (sF tv mem 0 n c))) = true then 1 else 0) := by
  obtain ⟨o, o1, o2, o3⟩ := pc_outline hE (L := L - 1) (by omega) S P hc
  obtain ⟨z1, z2, z3⟩ := pc_size hE (L := L - 1) (by omega) P hc
  have b2 := sF_lt (w := 2) S P hc (by omega)
  have b0 := sF_lt (w := 0) S P hc (by omega)
  refine B_Picked_passes hE (by omega) (o3.use ?_)
  rw [nIt (by omega) (by omega)]
  by_cases c1 : psB tv mem n c lid = true
  · have := (o2 lid).mpr c1
    rw [c1, Bool.true_and]
    refine brF (by omega) (z2.use ?_)
    by_cases c2 : Pw (sF tv mem 2 n c) = true
    · rw [c2, Bool.true_and]
      refine brF (nlt_le.mpr ((hw _ (by omega)).mpr c2)) (z1.use ?_)
      by_cases c3 : Ps (sF tv mem 0 n c) = true
      · rw [if_pos c3]; exact brF (nlt_le.mpr ((hs _ (by omega)).mpr c3)) ⟨rfl, rfl⟩
      · rw [if_neg c3]; exact brT (Classical.byContradiction fun w => c3 ((hs _ (by omega)).mp (nlt_le.mp w))) ⟨rfl, rfl⟩
    · rw [show Pw (sF tv mem 2 n c) = false by simpa using c2, Bool.false_and, if_neg (by decide)]
      exact brT (Classical.byContradiction fun w => c2 ((hw _ (by omega)).mp (nlt_le.mp w))) ⟨rfl, rfl⟩
  · have : ¬ o ≤ lid := fun w => c1 ((o2 lid).mp w)
    rw [show psB tv mem n c lid = false by simpa using c1, Bool.false_and, if_neg (by decide)]
    exact brT (by omega) ⟨rfl, rfl⟩
theorem pc_worthiest (hE : EOk E) (hL : 5 ≤ L) (S : StV h 1 nB nT tv) {n lid : Nat} {mem : Nat → Nat} (P : PcV h n mem tv) (hlid : lid < 100000) {y z : Int32} {Pw Ps : Nat → Bool} (hw : ∀ w, w < 1000000 → (nI w ≤ y ↔ Pw w = true)) (hs : ∀ w, w < 1000000 → (nI w ≤ z ↔ Ps w = true)) : RdI E L m_Picked_worthiest 39 [.int (nI lid), .int y, .int z] h (nI (wbst (sF tv mem 3 n) (fun c => psB tv mem n c lid && (Pw (sF tv mem 2 n c) && Ps (sF tv mem 0 n c))) (2 ^ n))) := by
  have n12 := P.1.2.1
  have p4 := pow13 (n := n) (by omega)
  refine B_Picked_worthiest hE (by omega) ?_
  have main : ∀ m c, m + c = 2 ^ n → 1 ≤ c → at_Picked_worthiest_6 E L h (fun y h' => y = nI (wbst (sF tv mem 3 n) (fun c => psB tv mem n c lid && (Pw (sF tv mem 2 n c) && Ps (sF tv mem 0 n c))) (2 ^ n)) ∧ h' = h) (nI lid) y z (nI (wbst (sF tv mem 3 n) (fun c => psB tv mem n c lid && (Pw (sF tv mem 2 n c) && Ps (sF tv mem 0 n c))) c)) (nI c) := by
    intro m
    induction m with
    | zero =>
      intro c hc c1
      rw [show c = 2 ^ n by omega]
      exact B_Picked_worthiest_6 ((pc_choices hE (by omega) P.1).use (brT (nI_le (Nat.le_refl _) (by omega)) ⟨rfl, rfl⟩))
    | succ m ih =>
      intro c hc c1
      have hcn : c < 2 ^ n := by omega
      have hb := wbst_lt (sF tv mem 3 n) (fun c => psB tv mem n c lid && (Pw (sF tv mem 2 n c) && Ps (sF tv mem 0 n c))) (c := c) (by omega)
      have ih1 := ih (c + 1) (by omega) (by omega)
      rw [wbst_s] at ih1
      generalize wbst (sF tv mem 3 n) (fun c => psB tv mem n c lid && (Pw (sF tv mem 2 n c) && Ps (sF tv mem 0 n c))) c = B at *
      have s1 := sF_lt (w := 3) S P hcn (by omega)
      have s2 := sF_lt (w := 3) (c := B) S P (by omega) (by omega)
      refine B_Picked_worthiest_6 ((pc_choices hE (by omega) P.1).use (brF (nI_ge hcn (by omega)) ((pc_size hE (by omega) P hcn).2.2.use ((pc_size hE (by omega) P (show B < 2 ^ n by omega)).2.2.use ?_))))
      rw [nIl (by omega) (by omega), nI_1]
      refine ⟨fun q => ?_, fun q => (pc_passes hE (by omega) S P hcn hlid hw hs).use ?_⟩
      · rw [if_neg (fun w => by omega)] at ih1; exact ih1
      · by_cases r : (psB tv mem n c lid && (Pw (sF tv mem 2 n c) && Ps (sF tv mem 0 n c))) = true
        · rw [if_pos ⟨by omega, r⟩] at ih1
          rw [if_pos r]; exact brF (by decide) ih1
        · rw [if_neg (fun w => r w.2)] at ih1
          rw [if_neg r]; exact brT rfl ih1
  have := main (2 ^ n - 1) 1 (by omega) (by omega)
  rw [wbst_1] at this
  exact this
theorem nF_cong {W W' : Nat → Bool} {mx : Nat} (e : ∀ i, i < 24 → W i = W' i) : nF W mx = nF W' mx ∧ ∀ k, k < cB W 24 → itK W k = itK W' k := by
  have cc : ∀ v, v ≤ 24 → cB W v = cB W' v := fun v hv => sE_cong (n := v) (fun j hj => by rw [e j (by omega)])
  refine ⟨by unfold nF; rw [cc 24 (Nat.le_refl _)], fun k hk => ?_⟩
  obtain ⟨a, b, c⟩ := itK_yes hk
  have := itK_at (W := W') a (by rw [← e _ a]; exact b)
  rw [← cc _ (by omega), c] at this
  exact this.symm
theorem eq_most (hE : EOk E) (hL : 20 ≤ L) (I : Inv h K) (hK : K + 60 ≤ 100000) (u v w : Int32) : Same E L m_X_most m_M_most [.int u, .int v, .int w] h K := by
  obtain ⟨nB, nT, tv, pk, lv, sn, ck, hck, C⟩ := I.2.1
  have S := C.1
  have Y := C.2.1
  have hA := C.2.2.2.1
  have h8 := C.1.2.2.2.1
  have h16 := C.1.2.2.2.2.1
  have tl : ∀ i k, i < 24 → k < 7 → tv i k ≤ 9999 := fun i k hi hk => (S.2.2.2.2.2 i k hi hk).2
  by_cases hu : ∃ b, b < nB ∧ u = nI b
  · obtain ⟨b, hb, rfl⟩ := hu
    have eb : (nI b).toInt64 = lN b := nI_l (by omega)
    by_cases hw : ∃ k, k < 2 ∧ w = nI k
    · obtain ⟨k, hk, rfl⟩ := hw
      have w2 : ∀ h1 : Hp, RdI E (L - 1) m_M_within 0 [.long (nI k).toInt64, .long 0, .long 1] h1 1 := fun h1 => m_w_yes (a := 0) (b := 1) hE (by omega) (by omega) (by omega) (by omega)
      by_cases hs : v &&& (iAll nB nT ^^^ (-1)) = 0
      · refine B_X_most hE (by omega) ?_
        rw [eb]
        have ho := x_hasOnly (h := h) hE (L := L - 1) (by omega) v (iAll nB nT)
        rw [if_pos hs] at ho
        refine (hasBox_yes hE (by omega) S hb).use (brF (by decide) (brF (nIneg (by omega)) (brT (show nI k ≤ nI 1 from nI_le (by omega) (by omega)) ((st_itemBits hE (by omega) S).use (ho.use (brF' (by decide) ((st_thingBits hE (by omega) S).use ((ly_onFloor hE (by omega) Y (v &&& tAll nT)).mono (fun y h1 z => ?_)))))))))
        obtain ⟨ez, by1⟩ := z
        rw [ez]
        clear ez h1
        have wc : ∀ i, i < 24 → wS y (fun _ => true) i = wS v (flP pk 1) i := fun i hi => by
          unfold wS flP
          by_cases i8 : 8 ≤ i
          · rw [decide_eq_true i8, Bool.true_and, Bool.true_and, bO_bt y hi, bO_bt v hi, by1 i hi, bt_and, bt_tAll (by omega) (by omega)]
            by_cases bv : bt v i = true
            · have := only_bt hs (by omega) bv
              rw [bt_iAll (by omega) (by omega) (by omega), decide_eq_false (show ¬ i < nB by omega), Bool.false_or] at this
              rw [this, bv]; simp
            · rw [show bt v i = false by simpa using bv]; simp
          · rw [decide_eq_false i8]; simp
        refine (pc_pick hE (by omega) S I.2.2.2.2.2.2 y (mx := 10) (by omega)).mono (fun h2 z2 => ?_)
        obtain ⟨eX, zX, P2⟩ := z2
        have nc := nF_cong (mx := 10) wc
        have nle := nF_le (W := wS y (fun _ => true)) (mx := 10)
        generalize hW : wS y (fun _ => true) = Wy at *
        generalize hW2 : wS v (flP pk 1) = Wv at *
        have S2 : StV h2 1 nB nT tv := S.keep eX (by omega) (by omega)
        have Y2 : LyV h2 3 pk lv := LyV_eq Y (eX 4 (by omega)).2.1 (eX 5 (by omega)).2.1
        have sX : EqS h h2 := EqS.of eX (fun p hp => (show ∀ p ∈ persF, ¬ (39 ≤ p.1 ∧ p.1 ≤ 44) by decide) p hp) (fun p hp => (show ∀ p ∈ persA, ¬ (39 ≤ p ∧ p ≤ 44) by decide) p hp)
        have M2 : MdV h2 nB nT tv pk sn ck := MsV_eq C.2.2.1 (eX 75 (by omega)).2.1
        have p4 := pow13 (n := nF Wy 10) (by omega)
        have rl := rom_le (pk := pk) (n := hlv pk (b + 1)) (tl b 0 (by omega) (by omega)) (tl b 5 (by omega) (by omega))
        have fl := fil_le (pk := pk) (tv := tv) (fun i hi => tl i 0 hi (by omega)) (b + 1)
        have fo := ly_fillOf hE (L := L - 1) (by omega) Y2 S2 (c := b + 1) (by omega)
        rw [bx_S] at fo
        refine (store_told hE (by omega) S2 (i := b) (k := 4) (by omega) (by omega)).use ((ly_spareLoad hE (by omega) Y2 S2 (b := b) (by omega)).mono (fun y3 h3 z3 => ?_))
        obtain ⟨ez3, hw3⟩ := z3
        rw [ez3]
        clear ez3 h3
        refine (ly_roomOf hE (by omega) Y2 S2 (b := b) (by omega)).use (fo.use ?_)
        have hs4 : ∀ w, w < 1000000 → (nI w ≤ nI (rom pk tv b (hlv pk (b + 1))) - nI (fil pk tv (b + 1)) ↔ (fun w => decide (fil pk tv (b + 1) + w ≤ rom pk tv b (hlv pk (b + 1)))) w = true) := fun w hw => by
          rw [i32_le, nI_int (by omega), pk_sub_toInt (by omega) (by omega), decide_eq_true_eq]
          omega
        have l4 := tl b 4 (by omega) (by omega)
        refine (pc_worthiest hE (by omega) S2 P2 (lid := tv b 4) (by omega) hw3 hs4).use ?_
        have bst := wbst_lt (sF tv (itK Wy) 3 (nF Wy 10)) (fun c => psB tv (itK Wy) (nF Wy 10) c (tv b 4) && (brs pk tv (sF tv (itK Wy) 2 (nF Wy 10) c) 9 (b + 1) && decide (fil pk tv (b + 1) + sF tv (itK Wy) 0 (nF Wy 10) c ≤ rom pk tv b (hlv pk (b + 1))))) (c := 2 ^ nF Wy 10) p4.2
        obtain ⟨vb, mvb, rb⟩ := pc_bits hE (L := L - 1) (by omega) P2.1 (c := wbst (sF tv (itK Wy) 3 (nF Wy 10)) (fun c => psB tv (itK Wy) (nF Wy 10) c (tv b 4) && (brs pk tv (sF tv (itK Wy) 2 (nF Wy 10) c) 9 (b + 1) && decide (fil pk tv (b + 1) + sF tv (itK Wy) 0 (nF Wy 10) c ≤ rom pk tv b (hlv pk (b + 1))))) (2 ^ nF Wy 10)) (by omega)
        have mm : ∀ ans : Int32, (k = 0 → ans = nI (sF tv (itK Wy) 3 (nF Wy 10) (wbst (sF tv (itK Wy) 3 (nF Wy 10)) (fun c => psB tv (itK Wy) (nF Wy 10) c (tv b 4) && (brs pk tv (sF tv (itK Wy) 2 (nF Wy 10) c) 9 (b + 1) && decide (fil pk tv (b + 1) + sF tv (itK Wy) 0 (nF Wy 10) c ≤ rom pk tv b (hlv pk (b + 1))))) (2 ^ nF Wy 10)))) → (k = 1 → ans = vb) → ConI E L m_M_most 74 [.int (nI b), .int v, .int (nI k)] h2 (fun y2 h3 => ans = y2 ∧ Inv h3 (K + 60)) := by
          intro ans a0 a1
          refine B_M_most hE (by omega) ?_
          rw [eb]
          refine (m_isBox_yes (h := sI h2 74 0 0) hE (by omega) M2 hb).use (brF (by decide) ((w2 _).use (brF' (by decide) ((m_itemsAll (h := sI h2 74 0 0) hE (by omega) M2).use (brT hs ((m_takesFew (h := sI h2 74 0 0) hE (by omega) M2 v (mx := 10) (fl := 1) (by omega) (by omega)).mono (fun h4 z4 => ?_)))))))
          obtain ⟨e4, k4, F4⟩ := z4
          rw [hW2, ← nc.1] at F4
          have F5 : FwV h4 (nF Wy 10) (itK Wy) := ⟨F4.1, F4.2.1, fun k hk => by rw [nc.2 k (by omega)]; exact F4.2.2 k hk⟩
          have M4 : MdV h4 nB nT tv pk sn ck := MsV_eq M2 (e4 75 (by omega)).2.1
          have I4 : Inv h4 (K + 60) := by
            refine I.keep (sX.trans ((thr_eq h2).trans ⟨fun p hp => ?_, fun q hq => ?_⟩)) (PickZ_eq zX (fun a h1 h2 => (e4 a (by omega)).2.1)) (by omega) hK
            · by_cases d : p.1 = 74
              · have : p.2 ≠ 19 := (show ∀ p ∈ persF, p.1 = 74 → p.2 ≠ 19 by decide) p hp d
                rw [d, k4 p.2 this]
              · have : p.1 ≠ 80 := (show ∀ p ∈ persF, p.1 ≠ 80 by decide) p hp
                rw [(e4 p.1 (by omega)).1]
            · have : q ≠ 74 ∧ q ≠ 80 := (show ∀ p ∈ persA, p ≠ 74 ∧ p ≠ 80 by decide) q hq
              exact (e4 q (by omega)).2
          have mfo := m_fillOf hE (L := L - 1) (by omega) M4 (c := b + 1) (by omega) (by omega)
          rw [bx_S] at mfo
          have main : ∀ m c, m + c = 2 ^ nF Wy 10 → 1 ≤ c → at_M_most_55 E L h4 (fun y2 h3 => ans = y2 ∧ Inv h3 (K + 60)) (nI b) (nI k) (nI (wbst (sF tv (itK Wy) 3 (nF Wy 10)) (fun c => psB tv (itK Wy) (nF Wy 10) c (tv b 4) && (brs pk tv (sF tv (itK Wy) 2 (nF Wy 10) c) 9 (b + 1) && decide (fil pk tv (b + 1) + sF tv (itK Wy) 0 (nF Wy 10) c ≤ rom pk tv b (hlv pk (b + 1))))) c)) (nI c) := by
            intro m
            induction m with
            | zero =>
              intro c hc c1
              rw [show c = 2 ^ nF Wy 10 by omega]
              refine B_M_most_55 ?_
              rw [F5.1, shlN (by omega)]
              refine brT (nI_le (Nat.le_refl _) (by omega)) ?_
              rw [nI_z (by omega)]
              exact ⟨fun d => (m_asItems hE (by omega) F5 (by omega) mvb).use ⟨a1 (by omega), I4⟩, fun d => (m_sumOf hE (by omega) M4 F5 (w := 3) (by omega) (by omega)).use ⟨a0 d, I4⟩⟩
            | succ m ih =>
              intro c hc c1
              have hcn : c < 2 ^ nF Wy 10 := by omega
              have hB := wbst_lt (sF tv (itK Wy) 3 (nF Wy 10)) (fun c => psB tv (itK Wy) (nF Wy 10) c (tv b 4) && (brs pk tv (sF tv (itK Wy) 2 (nF Wy 10) c) 9 (b + 1) && decide (fil pk tv (b + 1) + sF tv (itK Wy) 0 (nF Wy 10) c ≤ rom pk tv b (hlv pk (b + 1))))) (c := c) (by omega)
              have ih1 := ih (c + 1) (by omega) (by omega)
              rw [wbst_s] at ih1
              generalize wbst (sF tv (itK Wy) 3 (nF Wy 10)) (fun c => psB tv (itK Wy) (nF Wy 10) c (tv b 4) && (brs pk tv (sF tv (itK Wy) 2 (nF Wy 10) c) 9 (b + 1) && decide (fil pk tv (b + 1) + sF tv (itK Wy) 0 (nF Wy 10) c ≤ rom pk tv b (hlv pk (b + 1))))) c = B at *
              have s1 := sF_lt (w := 3) S2 P2 hcn (by omega)
              have s2 := sF_lt (w := 3) (c := B) S2 P2 (by omega) (by omega)
              have s3 := sF_lt (w := 2) S2 P2 hcn (by omega)
              have s4 := sF_lt (w := 0) S2 P2 hcn (by omega)
              have no : ¬ (psB tv (itK Wy) (nF Wy 10) c (tv b 4) && (brs pk tv (sF tv (itK Wy) 2 (nF Wy 10) c) 9 (b + 1) && decide (fil pk tv (b + 1) + sF tv (itK Wy) 0 (nF Wy 10) c ≤ rom pk tv b (hlv pk (b + 1))))) = true → at_M_most_55 E L h4 (fun y2 h3 => ans = y2 ∧ Inv h3 (K + 60)) (nI b) (nI k) (nI B) (nI (c + 1)) := fun r => by
                rw [if_neg (fun w => r w.2)] at ih1; exact ih1
              refine B_M_most_55 ?_
              rw [F5.1, shlN (by omega), nI_1]
              refine brF (nI_ge hcn (by omega)) ((m_sumOf hE (by omega) M4 F5 (w := 3) (by omega) (by omega)).use ((m_sumOf hE (by omega) M4 F5 (c := B) (w := 3) (by omega) (by omega)).use ?_))
              rw [nIl (by omega) (by omega)]
              refine ⟨fun q => ?_, fun q => (m_passes hE (by omega) M4 F5 (by omega) (by omega)).use ?_⟩
              · rw [if_neg (fun w => by omega)] at ih1; exact ih1
              · by_cases p1 : psB tv (itK Wy) (nF Wy 10) c (tv b 4) = true
                · rw [if_pos p1]
                  refine brF (by decide) ((m_sumOf hE (by omega) M4 F5 (w := 2) (by omega) (by omega)).use ((m_bears hE (by omega) M4 hA (by omega) (by omega)).use ?_))
                  by_cases p2 : brs pk tv (sF tv (itK Wy) 2 (nF Wy 10) c) 9 (b + 1) = true
                  · rw [if_pos p2]
                    refine brF (by decide) (mfo.use ((m_sumOf hE (by omega) M4 F5 (w := 0) (by omega) (by omega)).use ((m_roomOf hE (by omega) M4 (b := b) (m := 0) (by omega) (by omega)).use ?_)))
                    rw [nI_add, nIl (by omega) (by rw [Nat.add_zero]; omega), Nat.add_zero]
                    refine ⟨fun p3 => ?_, fun p3 => no (fun z => ?_)⟩
                    · rw [if_pos ⟨by omega, by rw [p1, p2, decide_eq_true (show fil pk tv (b + 1) + sF tv (itK Wy) 0 (nF Wy 10) c ≤ rom pk tv b (hlv pk (b + 1)) from p3)]; rfl⟩] at ih1; exact ih1
                    · rw [Bool.and_eq_true, Bool.and_eq_true, decide_eq_true_eq] at z
                      exact p3 z.2.2
                  · rw [if_neg p2]
                    refine brT rfl (no (fun z => p2 ?_))
                    rw [Bool.and_eq_true, Bool.and_eq_true] at z
                    exact z.2.1
                · rw [if_neg p1]
                  refine brT rfl (no (fun z => p1 ?_))
                  rw [Bool.and_eq_true] at z
                  exact z.1
          have := main (2 ^ nF Wy 10 - 1) 1 (by omega) (by omega)
          rw [wbst_1] at this
          exact this
        rw [nI_z (by omega)]
        exact ⟨fun d => rb.use (mm _ (fun z => absurd z d) (fun _ => rfl)), fun d => (pc_size hE (by omega) P2 bst).2.2.use (mm _ (fun _ => rfl) (fun z => by omega))⟩
      · refine same_rd (x := -3) I hK (RdX.of I.2.2.2.2.2.2 ?_) (fun h1 e I1 => ?_)
        · have ho := x_hasOnly (h := h) hE (L := L - 1) (by omega) v (iAll nB nT)
          rw [if_neg hs] at ho
          refine B_X_most hE (by omega) ?_
          rw [eb]
          exact (hasBox_yes hE (by omega) S hb).use (brF (by decide) (brF (nIneg (by omega)) (brT (show nI k ≤ nI 1 from nI_le (by omega) (by omega)) ((st_itemBits hE (by omega) S).use (ho.use (brT' rfl ⟨rfl, rfl⟩))))))
        · have M1 : MdV (sI h1 74 0 0) nB nT tv pk sn ck := (C.keep e).2.2.1
          refine B_M_most hE (by omega) ?_
          rw [eb]
          exact (m_isBox_yes hE (by omega) M1 hb).use (brF (by decide) ((w2 _).use (brF' (by decide) ((m_itemsAll hE (by omega) M1).use (brF hs ⟨rfl, thr_eq _, I1.2.2.2.2.2.2⟩)))))
    · have hv2 := not_small (n := 2) (by omega) hw
      refine same_rd (x := -2) I hK (RdX.of I.2.2.2.2.2.2 ?_) (fun h1 e I1 => ?_)
      · refine B_X_most hE (by omega) ?_
        rw [eb]
        refine (hasBox_yes hE (by omega) S hb).use (brF (by decide) ?_)
        by_cases c : w < 0
        · exact brT c ⟨rfl, rfl⟩
        · refine brF c (brF (fun z => ?_) ⟨rfl, rfl⟩)
          have c2 := hv2.resolve_left c
          rw [i32_le, nI_int (by omega)] at c2
          rw [i32_le] at z
          have e40 : (1 : Int32).toInt = 1 := rfl
          omega
      · have M1 : MdV (sI h1 74 0 0) nB nT tv pk sn ck := (C.keep e).2.2.1
        refine B_M_most hE (by omega) ?_
        rw [eb]
        exact (m_isBox_yes hE (by omega) M1 hb).use (brF (by decide) ((m_w_no (a := 0) (b := 1) hE (by omega) (by omega) (by omega) (fun ⟨k, _, q, r⟩ => hw ⟨k, by omega, r⟩)).use (brT' rfl ⟨rfl, thr_eq _, I1.2.2.2.2.2.2⟩)))
  · refine same_rd (x := -2) I hK (RdX.of I.2.2.2.2.2.2 ?_) (fun h1 e I1 => ?_)
    · exact B_X_most hE (by omega) ((hasBox_no hE (by omega) S (noBox h8 hu)).use (brT rfl ⟨rfl, rfl⟩))
    · exact B_M_most hE (by omega) ((m_isBox_no (h := sI h1 74 0 0) hE (by omega) (C.keep e).2.2.1 (noBox h8 hu)).use (brT rfl ⟨rfl, thr_eq _, I1.2.2.2.2.2.2⟩))
end Most
