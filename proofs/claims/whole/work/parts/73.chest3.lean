section Chest3
variable {E : EnvX} {L : Nat} {h : Hp} {K : Nat} {nB nT : Nat} {tv : Nat → Nat → Nat} {pk lv sn : Nat → Nat} {ck : Nat}
theorem k90 : akd 90 = 3 ∧ 4096 ≤ aln 90 ∧ aln 90 < 2147483648 := by decide +kernel
theorem in90 {k : Nat} (hk : k < 4096) : inZ 90 (nI k) := inZ_of k90.1 (by have := k90.2.1; omega) k90.2.2
theorem sF_le {n c w : Nat} {mem : Nat → Nat} (M : MdV h nB nT tv pk sn ck) (hn : n ≤ 12) (hm : ∀ k, k < n → mem k < 24) (hw : w < 7) : sF tv mem w n c ≤ 119988 := by
  have : sF tv mem w n c ≤ n * 9999 := sE_le (fun k hk => by
    by_cases e : c.testBit k = true
    · rw [if_pos e]; exact (M.2.2.1 _ w (hm k hk) hw).2
    · rw [if_neg e]; exact Nat.zero_le _)
  have : n * 9999 ≤ 12 * 9999 := Nat.mul_le_mul_right _ hn
  omega
def lcPo (h : Hp) (n : Nat) (mem : Nat → Nat) (q : Nat → Bool) (y : Int32) (h' : Hp) : Prop := y = nI (cB q (2 ^ n)) ∧ EqO (fun x => x = 74 ∨ x = 80 ∨ x = 90) h h' ∧ (∀ k, k ≠ 19 → h'.1 74 k = h.1 74 k) ∧ FwV h' n mem ∧ ∀ c, c < 2 ^ n → h'.2.1 90 c = if q c = true then 1 else 0
theorem m_laysChest (hE : EOk E) (hL : 8 ≤ L) (M : MdV h nB nT tv pk sn ck) (v : Int32) {b x w : Nat} (hb : b < 24) (hx : x < 100) (hw : w < 2147483648) : ConI E L m_M_laysChest 74 [.int (nI b), .int v, .int (nI x), .int (nI w)] h (lcPo h (nF (wS v (fun _ => true)) 12) (itK (wS v (fun _ => true))) (qW tv (itK (wS v (fun _ => true))) (nF (wS v (fun _ => true)) 12) b x w)) := by
  refine B_M_laysChest hE (by omega) ((m_takesFew hE (by omega) M v (mx := 12) (fl := 0) (by omega) (by omega)).mono (fun h1 z1 => ?_))
  obtain ⟨e1, k1, F1⟩ := z1
  rw [show wS v (flP pk 0) = wS v (fun _ => true) from rfl] at F1
  generalize nF (wS v (fun _ => true)) 12 = n at *
  generalize itK (wS v (fun _ => true)) = mem at *
  have n12 := F1.2.1
  have p4 := pow13 (n := n) (by omega)
  have t6 := (M.2.2.1 b 6 hb (by omega)).2
  have t0 := (M.2.2.1 b 0 hb (by omega)).2
  have t5 := (M.2.2.1 b 5 hb (by omega)).2
  have mul : tv b 0 * tv b 5 ≤ 9999 * 9999 := Nat.mul_le_mul t0 t5
  have main : ∀ m c, m + c = 2 ^ n → ∀ h2, EqO (fun x => x = 90) h1 h2 → (∀ j, j < c → h2.2.1 90 j = if qW tv mem n b x w j = true then 1 else 0) → at_M_laysChest_14 E L h2 (lcPo h n mem (qW tv mem n b x w)) (nI b) (nI x) (nI w) (nI (cB (qW tv mem n b x w) c)) (nI c) := by
    intro m
    induction m with
    | zero =>
      intro c hc h2 e2 a
      rw [show c = 2 ^ n by omega] at a ⊢
      have F2 : FwV h2 n mem := ⟨by rw [(e2 74 (by omega)).1]; exact F1.1, n12, fun k hk => by rw [(e2 80 (by omega)).2.1]; exact F1.2.2 k hk⟩
      refine B_M_laysChest_14 ?_
      rw [F2.1, shlN (by omega)]
      exact brT (nI_le (Nat.le_refl _) (by omega)) ⟨rfl, (e1.wk (fun x z => by omega)).trans (e2.wk (fun x z => by omega)), fun k hk => by rw [(e2 74 (by omega)).1]; exact k1 k hk, F2, a⟩
    | succ m ih =>
      intro c hc h2 e2 a
      have hcn : c < 2 ^ n := by omega
      have F2 : FwV h2 n mem := ⟨by rw [(e2 74 (by omega)).1]; exact F1.1, n12, fun k hk => by rw [(e2 80 (by omega)).2.1]; exact F1.2.2 k hk⟩
      have M2 : MdV h2 nB nT tv pk sn ck := MsV_eq M (by rw [(e2 75 (by omega)).2.1, (e1 75 (by omega)).2.1])
      have m24 : ∀ k, k < n → mem k < 24 := fun k hk => (F1.2.2 k hk).2
      have s2 := sF_le (c := c) (w := 2) M n12 m24 (by omega)
      have s0 := sF_le (c := c) (w := 0) M n12 m24 (by omega)
      have pl := (bcN (x := c) (by omega)).2
      have up : ∀ v0 : Int32, (v0 = if qW tv mem n b x w c = true then 1 else 0) → at_M_laysChest_14 E L (sA h2 90 c v0) (lcPo h n mem (qW tv mem n b x w)) (nI b) (nI x) (nI w) (nI (cB (qW tv mem n b x w) (c + 1))) (nI (c + 1)) := fun v0 ev => by
        refine ih (c + 1) (by omega) _ (e2.trans (EqO.sA (F := fun x => x = 90) rfl)) (fun j hj => ?_)
        rw [sA_A, if_pos rfl]
        by_cases d : j = c
        · rw [if_pos d, d, ev]
        · rw [if_neg d]; exact a j (by omega)
      have no : qW tv mem n b x w c = false → at_M_laysChest_101 E L h2 (lcPo h n mem (qW tv mem n b x w)) (nI b) (nI x) (nI w) (nI (cB (qW tv mem n b x w) c)) (nI c) (nI c) := fun f => by
        have u := up 0 (by rw [if_neg (by rw [f]; decide)])
        rw [cB_s, if_neg (by rw [f]; decide), Nat.add_zero] at u
        refine B_M_laysChest_101 ⟨in90 (by omega), Or.inl rfl, in90 (by omega), ?_⟩
        rw [nIc (by omega), sA_A, if_pos rfl, if_pos rfl, addz, nI_1]
        exact brT rfl u
      refine B_M_laysChest_14 ?_
      rw [F2.1, shlN (by omega)]
      refine brF (nI_ge hcn (by omega)) ((m_bitsOf hE (by omega) (by omega)).use ?_)
      rw [nIe (by omega) (by omega)]
      refine ⟨fun d => no (by unfold qW; rw [decide_eq_false d]; rfl), fun d => (m_sumOf hE (by omega) M2 F2 (w := 2) (by omega) (by omega)).use ?_⟩
      rw [nIe (by omega) (by omega)]
      refine ⟨fun d2 => no (by unfold qW; rw [decide_eq_false d2, Bool.false_and, Bool.and_false]), fun d2 => (m_passes hE (by omega) M2 F2 (by omega) hb).use ?_⟩
      by_cases p1 : psB tv mem n c (tv b 4) = true
      · rw [if_pos p1]
        refine brF (by decide) ((m_of hE (by omega) M2 (k := 6) hb (by omega)).use ?_)
        rw [nIt (by omega) (by omega)]
        refine ⟨fun d3 => no (by unfold qW goB; rw [decide_eq_false (show ¬ sF tv mem 2 n c ≤ tv b 6 by omega)]; simp), fun d3 => ?_⟩
        refine (m_sumOf hE (by omega) M2 F2 (w := 0) (by omega) (by omega)).use ((m_of hE (by omega) M2 (k := 0) hb (by omega)).use ((m_of hE (by omega) M2 (k := 5) hb (by omega)).use ?_))
        rw [nI_mul, nIt (by omega) (by omega)]
        refine ⟨fun d4 => no (by unfold qW goB; rw [decide_eq_false (show ¬ sF tv mem 0 n c ≤ tv b 0 * tv b 5 by omega)]; simp), fun d4 => ?_⟩
        have qt : qW tv mem n b x w c = true := by unfold qW goB; rw [decide_eq_true d, decide_eq_true d2, p1, decide_eq_true (show sF tv mem 2 n c ≤ tv b 6 by omega), decide_eq_true (show sF tv mem 0 n c ≤ tv b 0 * tv b 5 by omega)]; rfl
        have u := up 1 (by rw [if_pos qt])
        rw [cB_s, if_pos qt] at u
        refine ⟨in90 (by omega), Or.inr rfl, in90 (by omega), ?_⟩
        rw [nIc (by omega), sA_A, if_pos rfl, if_pos rfl, nI_1, nI_1]
        exact brF (by decide) u
      · rw [if_neg p1]
        exact brT rfl (no (by unfold qW goB; rw [show psB tv mem n c (tv b 4) = false by simpa using p1]; simp))
  exact main (2 ^ n) 0 (by omega) h1 EqO.rfl' (fun j hj => absurd hj (Nat.not_lt_zero j))
/-- the three ways in which the questions of a chest begin -/
theorem chest_ways (hE : EOk E) (hL : 18 ≤ L) (I : Inv h K) (C : CurV h 1 3 0 nB nT tv pk lv sn ck) (u v n w : Int32) : (RdI E L m_X_weighIfSound 0 [.int u, .int v, .int n, .int w] h (-2) ∧ ∀ h', MdV h' nB nT tv pk sn ck → RdI E L m_M_isBox 74 [.long u.toInt64] h' 0) ∨ (RdI E L m_X_weighIfSound 0 [.int u, .int v, .int n, .int w] h (-3) ∧ ∀ h', MdV h' nB nT tv pk sn ck → RdI E L m_M_isBox 74 [.long u.toInt64] h' 1 ∧ RdI E L m_M_isChest 74 [.int v, .int n, .int w] h' 0) ∨ ∃ b x y, b < nB ∧ x < 100 ∧ y < 2147483648 ∧ u = nI b ∧ n = nI x ∧ w = nI y ∧ ConI E L m_X_weighIfSound 0 [.int u, .int v, .int n, .int w] h (fun z h' => z = 0 ∧ chPo h tv (nF (wS v (fun _ => true)) 12) (itK (wS v (fun _ => true))) (qW tv (itK (wS v (fun _ => true))) (nF (wS v (fun _ => true)) 12) b x y) h') ∧ ∀ h', MdV h' nB nT tv pk sn ck → RdI E L m_M_isBox 74 [.long u.toInt64] h' 1 ∧ RdI E L m_M_isChest 74 [.int v, .int n, .int w] h' 1 := by
  have S := C.1
  have h8 := C.1.2.2.2.1
  have h16 := C.1.2.2.2.2.1
  by_cases hu : ∃ b, b < nB ∧ u = nI b
  · obtain ⟨b, hb, rfl⟩ := hu
    have eb : (nI b).toInt64 = lN b := nI_l (by omega)
    rw [eb]
    have hx := hasBox_yes (h := h) hE (L := L - 1) (by omega) S hb
    rw [← eb] at hx
    have ho := x_hasOnly (h := h) hE (L := L - 1) (by omega) v (tAll nT)
    refine Or.inr ?_
    have mb : ∀ h', MdV h' nB nT tv pk sn ck → RdI E L m_M_isBox 74 [.long (lN b)] h' 1 := fun h' M => m_isBox_yes hE (by omega) M hb
    by_cases hs : v &&& (tAll nT ^^^ (-1)) = 0
    · rw [if_pos hs] at ho
      by_cases hn : ∃ k, 0 ≤ k ∧ k ≤ 12 ∧ n = nI k
      · obtain ⟨x, -, x12, rfl⟩ := hn
        have wy : ∀ h', RdI E (L - 1) m_M_within 0 [.long (nI x).toInt64, .long 0, .long 12] h' 1 := fun h' => m_w_yes (a := 0) (b := 12) hE (by omega) (by omega) (by omega) (by omega)
        by_cases hw : w < 0
        · refine Or.inl ⟨B_X_weighIfSound hE (by omega) (hx.use (brF' (by decide) ((st_thingBits hE (by omega) S).use (ho.use (brF (by decide) (brF (nIneg (by omega)) (brF (fun z => ?_) (brF (fun z => ?_) ⟨rfl, rfl⟩)))))))), fun h' M => ⟨mb h' M, B_M_isChest hE (by omega) ((m_thingsAll hE (by omega) M).use (brT' hs ((wy h').use (brF (by decide) (brT hw ⟨rfl, rfl⟩)))))⟩⟩
          · exact absurd (show nI 12 < nI x from z) (nI_nlt (by omega) (by omega))
          · exact absurd hw (nlt_le.mpr z)
        · obtain ⟨y, hy, rfl⟩ := nI_of hw
          refine Or.inr ⟨b, x, y, hb, by omega, hy, rfl, rfl, rfl, ?_, fun h' M => ⟨mb h' M, B_M_isChest hE (by omega) ((m_thingsAll hE (by omega) M).use (brT' hs ((wy h').use (brF (by decide) (brF hw ⟨rfl, rfl⟩)))))⟩⟩
          refine B_X_weighIfSound hE (by omega) (hx.use (brF' (by decide) ((st_thingBits hE (by omega) S).use (ho.use (brF (by decide) (brF (nIneg (by omega)) (brF (fun z => ?_) (brT (nlt_le.mp hw) ?_))))))))
          · exact absurd (show nI 12 < nI x from z) (nI_nlt (by omega) (by omega))
          · exact (ch_weigh hE (by omega) S I.2.2.2.2.2.2 v (by omega) (by omega) hy).mono (fun h' z => ⟨rfl, z⟩)
      · refine Or.inl ⟨B_X_weighIfSound hE (by omega) (hx.use (brF' (by decide) ((st_thingBits hE (by omega) S).use (ho.use (brF (by decide) ⟨fun _ => ⟨rfl, rfl⟩, fun n0 => brT (Classical.byContradiction fun z => hn ?_) ⟨rfl, rfl⟩⟩))))), fun h' M => ⟨mb h' M, B_M_isChest hE (by omega) ((m_thingsAll hE (by omega) M).use (brT' hs ((m_w_no (a := 0) (b := 12) hE (by omega) (by omega) (by omega) hn).use (brT rfl ⟨rfl, rfl⟩))))⟩⟩
        obtain ⟨x, hx2, rfl⟩ := nI_of n0
        refine ⟨x, Nat.zero_le _, ?_, rfl⟩
        rw [show (12 : Int32) = nI 12 from rfl, nIt (by omega) hx2] at z
        omega
    · rw [if_neg hs] at ho
      exact Or.inl ⟨B_X_weighIfSound hE (by omega) (hx.use (brF' (by decide) ((st_thingBits hE (by omega) S).use (ho.use (brT rfl ⟨rfl, rfl⟩))))), fun h' M => ⟨mb h' M, B_M_isChest hE (by omega) ((m_thingsAll hE (by omega) M).use (brF' hs ⟨rfl, rfl⟩))⟩⟩
  · exact Or.inl ⟨B_X_weighIfSound hE (by omega) ((hasBox_no hE (by omega) S (noBox h8 hu)).use (brT' rfl ⟨rfl, rfl⟩)), fun h' M => m_isBox_no hE (by omega) M (noBox h8 hu)⟩
end Chest3
