/-! ===== the reference's lines: a box, a thing ===== -/
section LineM2
variable {E : EnvX} {L : Nat} {h h0 : Hp} {T : Nat → Nat} {n : Nat} {Z : Zr}
theorem a78 : akd 78 = 1 ∧ aln 78 = 171 ∧ akd 75 = 1 ∧ aln 75 = 660 := by decide +kernel
theorem in78 {k : Nat} (hk : k < 171) : inI 78 (nI k) := inI_of a78.1 (by rw [a78.2.1]; exact hk) (by rw [a78.2.1]; decide)
theorem in75w {k : Nat} (hk : k < 660) : inI 75 (nI k) := inI_of a78.2.2.1 (by rw [a78.2.2.2]; exact hk) (by rw [a78.2.2.2]; decide)
theorem in_1 : (∀ v, rIn 1 0 v = true ↔ 1 ≤ v ∧ v ≤ 99) ∧ (∀ v, rIn 1 1 v = true ↔ 1 ≤ v ∧ v ≤ 99) ∧ (∀ v, rIn 1 2 v = true ↔ 1 ≤ v ∧ v ≤ 99) ∧ (∀ v, rIn 1 3 v = true ↔ 1 ≤ v ∧ v ≤ 64) ∧ (∀ v, rIn 1 4 v = true ↔ 1 ≤ v ∧ v ≤ 99) ∧ (∀ v, rIn 1 5 v = true ↔ 1 ≤ v ∧ v ≤ 9999) := by
  refine ⟨?_, ?_, ?_, ?_, ?_, ?_⟩ <;> (intro v; rw [rIn_iff]; exact ⟨fun q => q.2, fun q => ⟨by decide, q⟩⟩)
theorem in_2 : (∀ v, rIn 2 0 v = true ↔ 1 ≤ v ∧ v ≤ 999) ∧ (∀ v, rIn 2 1 v = true ↔ 1 ≤ v ∧ v ≤ 99) ∧ (∀ v, rIn 2 2 v = true ↔ 1 ≤ v ∧ v ≤ 99) ∧ (∀ v, rIn 2 3 v = true ↔ 0 ≤ v ∧ v ≤ 99) := by
  refine ⟨?_, ?_, ?_, ?_⟩ <;> (intro v; rw [rIn_iff]; exact ⟨fun q => q.2, fun q => ⟨by decide, q⟩⟩)
def mF2 (h0 h : Hp) : Prop := EqO (fun q => q = 74 ∨ q = 78) h0 h ∧ h.1 74 8 = h0.1 74 8 ∧ h.1 74 5 = h0.1 74 5
theorem mF.two (f : mF h0 h) : mF2 h0 h := ⟨f.1.wk (fun _ q => Or.inl q), f.2⟩
theorem mF2.trans {h1 h2 : Hp} (a : mF2 h h1) (b : mF2 h1 h2) : mF2 h h2 := ⟨a.1.trans b.1, b.2.1.trans a.2.1, b.2.2.trans a.2.2⟩
theorem mF2.tp (f : mF2 h0 h) (t : mTp h0 T n) : mTp h T n := by
  refine ⟨t.1, f.2.1.trans t.2.1, fun p hp => ?_⟩
  rw [(f.1 77 (by omega)).2.1]; exact t.2.2 p hp
theorem mF2.a (f : mF2 h0 h) {k : Nat} {v : Int32} : mF2 h0 (sA h 78 k v) := ⟨f.1.trans (EqO.sA (Or.inr rfl)), f.2⟩
variable {nB nT l : Nat} {tv : Nat → Nat → Nat}
theorem fV.keep (V : fV h nB nT l tv) (f : mF h h0) : fV h0 nB nT l tv := by
  unfold fV fVt
  rw [(f.1 78 (by decide)).2.1]
  exact V
def lnP (T : Nat → Nat) (n : Nat) (Z : Zr) (lo nB nT l : Nat) (s : (Nat → Nat → Nat) → Sr) (h h' : Hp) : Prop := mF2 h h' ∧ (mXF h' Z ∨ ∃ tv', nB ≤ 8 ∧ nT ≤ 16 ∧ tvB nB nT tv' ∧ fV h' nB nT l tv' ∧ mG T n Z lo (s tv') h')
theorem m_readBox (hE : EOk E) (hL : 7 ≤ L) (t : mTp h T n) (V : fV h nB nT l tv) (B : tvB nB nT tv) (h8 : nB ≤ 8) (h16 : nT ≤ 16) {a e v : Nat} (q11 : h.1 74 11 = 0) (tk : mTk T n h a e 0 v) (hz : rQ T n a (0, 0, 0, nB, nT, tv) = Z) : ConV E L m_M_readBox 74 [] h (lnP T n Z a (nB + 1) nT l (fun tv' => (1, 30, 6, nB, nT, tv')) h) := by
  refine B_M_readBox hE (by omega) ⟨in78 (k := 0) (by decide), ?_⟩
  have e0 : h.2.1 78 (0 : Int32).toNatClampNeg = nI nB := V.1
  rw [e0, show (8 : Int32) = nI 8 from rfl, nIe (by omega) (by decide)]
  obtain ⟨l1, -, -, -⟩ := st_line (sp := 0) (nr := 0) (nB := nB) (nT := nT) (tv := tv) tk.2.2.2.2
  obtain ⟨hae, l5, l6⟩ := l1 rfl
  refine ⟨fun c => ?_, fun c => ?_⟩
  · have hb : nB < 8 := by omega
    refine brT q11 ((m_go hE (by omega) t q11 tk (lo := a) (by omega) hae ((l5 hb).symm.trans hz)).mono (fun h1 x => ?_))
    obtain ⟨f1, g1⟩ := x
    have J1 : mJ T n Z a (1, 3, 0, nB, nT, tv) h1 := mJ.wk (Or.inr g1) (Nat.le_succ _)
    refine (m_takes hE (by omega) (f1.tp t) (lw := 1) (hi := 99) (by decide) (by decide) (stN_num (nr := 0) (by decide) (by decide) in_1.1) J1).mono (fun y2 h2 x => ?_)
    obtain ⟨f2, w1, b1, b1', z1, J2⟩ := x
    replace J2 : mJ T n Z a (1, 4, 1, nB, nT, rUp tv nB 0 w1) h2 := J2
    have F2 := f1.trans f2
    refine (m_tb hE (by omega) (F2.tp t) (k := 1) (lw := 1) (hi := 99) (by decide) (by decide) (by decide) (show stW T n 1 (1, 4, 1, nB, nT, _) (1, 6, 1, nB, nT, _) from stW_word (by decide) (by decide) at_box.2.1) (stN_num (nr := 1) (by decide) (by decide) in_1.2.1) J2).mono (fun y3 h3 x => ?_)
    obtain ⟨f3, w2, b2, b2', z2, J3⟩ := x
    replace J3 : mJ T n Z a (1, 7, 2, nB, nT, rUp (rUp tv nB 0 w1) nB 1 w2) h3 := J3
    have F3 := F2.trans f3
    refine (m_tb hE (by omega) (F3.tp t) (k := 2) (lw := 1) (hi := 99) (by decide) (by decide) (by decide) (show stW T n 2 (1, 7, 2, nB, nT, _) (1, 10, 2, nB, nT, _) from stW_word (by decide) (by decide) at_box.2.2.1) (stN_num (nr := 2) (by decide) (by decide) in_1.2.2.1) J3).mono (fun y4 h4 x => ?_)
    obtain ⟨f4, w3, b3, b3', z3, J4⟩ := x
    replace J4 : mJ T n Z a (1, 11, 3, nB, nT, rUp (rUp (rUp tv nB 0 w1) nB 1 w2) nB 4 w3) h4 := J4
    have F4 := F3.trans f4
    refine (m_tb hE (by omega) (F4.tp t) (k := 3) (lw := 1) (hi := 64) (by decide) (by decide) (by decide) (show stW T n 3 (1, 11, 3, nB, nT, _) (1, 16, 3, nB, nT, _) from stW_word (by decide) (by decide) at_box.2.2.2.1) (stN_num (nr := 3) (by decide) (by decide) in_1.2.2.2.1) J4).mono (fun y5 h5 x => ?_)
    obtain ⟨f5, w4, b4, b4', z4, J5⟩ := x
    replace J5 : mJ T n Z a (1, 17, 4, nB, nT, rUp (rUp (rUp (rUp tv nB 0 w1) nB 1 w2) nB 4 w3) nB 5 w4) h5 := J5
    have F5 := F4.trans f5
    refine (m_tb hE (by omega) (F5.tp t) (k := 4) (lw := 1) (hi := 99) (by decide) (by decide) (by decide) (show stW T n 4 (1, 17, 4, nB, nT, _) (1, 23, 4, nB, nT, _) from stW_word (by decide) (by decide) at_box.2.2.2.2.1) (stN_num (nr := 4) (by decide) (by decide) in_1.2.2.2.2.1) J5).mono (fun y6 h6 x => ?_)
    obtain ⟨f6, w5, b5, b5', z5, J6⟩ := x
    replace J6 : mJ T n Z a (1, 24, 5, nB, nT, rUp (rUp (rUp (rUp (rUp tv nB 0 w1) nB 1 w2) nB 4 w3) nB 5 w4) nB 2 w5) h6 := J6
    have F6 := F5.trans f6
    refine (m_tb hE (by omega) (F6.tp t) (k := 5) (lw := 1) (hi := 9999) (by decide) (by decide) (by decide) (show stW T n 5 (1, 24, 5, nB, nT, _) (1, 29, 5, nB, nT, _) from stW_word (by decide) (by decide) at_box.2.2.2.2.2.1) (stN_num (nr := 5) (by decide) (by decide) in_1.2.2.2.2.2) J6).mono (fun y7 h7 x => ?_)
    obtain ⟨f7, w6, b6, b6', z6, J7⟩ := x
    replace J7 : mJ T n Z a (1, 30, 6, nB, nT, rUp (rUp (rUp (rUp (rUp (rUp tv nB 0 w1) nB 1 w2) nB 4 w3) nB 5 w4) nB 2 w5) nB 6 w6) h7 := J7
    have F7 := F6.trans f7
    rcases J7 with q | q
    · exact B_M_readBox_88 (brF q.ne ⟨F7.two, Or.inl q⟩)
    · have y6' := z6 q.1
      have y5' := z5 y6'.1
      have y4' := z4 y5'.1
      have y3' := z3 y4'.1
      have y2' := z2 y3'.1
      have y1' := z1 y2'.1
      rw [y6'.2, y5'.2, y4'.2, y3'.2, y2'.2, y1'.2]
      obtain ⟨V0, V1, V2, V3⟩ := V.keep F7
      refine B_M_readBox_88 (brT q.1 ((m_place hE (by omega) nB 0).use ⟨in78 (by omega), ?_⟩))
      rw [nIc (by omega)]
      refine (m_place hE (by omega) nB 1).use ⟨in78 (by omega), ?_⟩
      rw [nIc (by omega)]
      refine (m_place hE (by omega) nB 2).use ⟨in78 (by omega), ?_⟩
      rw [nIc (by omega)]
      refine B_M_readBox_130 ((m_place hE (by omega) nB 4).use ⟨in78 (by omega), ?_⟩)
      rw [nIc (by omega)]
      refine (m_place hE (by omega) nB 5).use ⟨in78 (by omega), ?_⟩
      rw [nIc (by omega)]
      refine (m_place hE (by omega) nB 6).use ⟨in78 (by omega), in78 (k := 0) (by decide), in78 (k := 0) (by decide), ?_⟩
      rw [nIc (by omega)]
      have V4 := (((((V3.up (i := nB) (k := 0) (v := w1) (by decide)).up (i := nB) (k := 1) (v := w2) (by decide)).up (i := nB) (k := 2) (v := w5) (by decide)).up (i := nB) (k := 4) (v := w3) (by decide)).up (i := nB) (k := 5) (v := w4) (by decide)).up (i := nB) (k := 6) (v := w6) (by decide)
      rw [← rUp_comm (rUp (rUp tv nB 0 w1) nB 1 w2) (show 4 ≠ 2 by decide), ← rUp_comm (rUp (rUp (rUp tv nB 0 w1) nB 1 w2) nB 4 w3) (show 5 ≠ 2 by decide)] at V4
      refine ⟨F7.two.a.a.a.a.a.a.a, Or.inr ⟨_, hb, h16, tvB_box B hb ⟨b1, b1'⟩ ⟨b2, b2'⟩ ⟨b3, b3'⟩ ⟨b4, b4'⟩ ⟨b5, b5'⟩ ⟨b6, b6'⟩, ⟨?_, ?_, ?_, fun i k hi hk => ?_⟩, q⟩⟩
      · show (sA _ 78 0 _).2.1 78 0 = _
        rw [sA_i, if_pos rfl]
        show (sA _ 78 _ _).2.1 78 0 + 1 = _
        rw [sA_i, if_neg (by omega), sA_i, if_neg (by omega), sA_i, if_neg (by omega), sA_i, if_neg (by omega), sA_i, if_neg (by omega), sA_i, if_neg (by omega), V0, nI_1]
      · show (sA _ 78 0 _).2.1 78 1 = _
        rw [sA_i, if_neg (by omega), sA_i, if_neg (by omega), sA_i, if_neg (by omega), sA_i, if_neg (by omega), sA_i, if_neg (by omega), sA_i, if_neg (by omega), sA_i, if_neg (by omega), V1]
      · show (sA _ 78 0 _).2.1 78 2 = _
        rw [sA_i, if_neg (by omega), sA_i, if_neg (by omega), sA_i, if_neg (by omega), sA_i, if_neg (by omega), sA_i, if_neg (by omega), sA_i, if_neg (by omega), sA_i, if_neg (by omega), V2]
      · show (sA _ 78 0 _).2.1 78 (3 + 7 * i + k) = _
        rw [sA_i, if_neg (by omega)]
        exact V4 i k hi hk
  · obtain ⟨l7, l8⟩ := l6 (by omega)
    rw [hz] at l7 l8
    refine (m_fails hE (by omega) (f := 4) q11 tk.2.2.1 (by decide) tk.1 (by decide) (by decide) l7 l8).mono (fun h' x => brF x.2.ne ⟨x.1.two, Or.inl x.2⟩)
theorem m_readThing (hE : EOk E) (hL : 7 ≤ L) (t : mTp h T n) (V : fV h nB nT l tv) (B : tvB nB nT tv) (h8 : nB ≤ 8) (h16 : nT ≤ 16) {a e v : Nat} (q11 : h.1 74 11 = 0) (tk : mTk T n h a e 6 v) (hz : rQ T n a (0, 0, 0, nB, nT, tv) = Z) : ConV E L m_M_readThing 74 [] h (lnP T n Z a nB (nT + 1) l (fun tv' => (2, 22, 4, nB, nT, tv')) h) := by
  refine B_M_readThing hE (by omega) ⟨in78 (k := 1) (by decide), ?_⟩
  have e0 : h.2.1 78 (1 : Int32).toNatClampNeg = nI nT := V.2.1
  rw [e0, show (16 : Int32) = nI 16 from rfl, nIe (by omega) (by decide)]
  obtain ⟨-, l1, -, -⟩ := st_line (sp := 0) (nr := 0) (nB := nB) (nT := nT) (tv := tv) tk.2.2.2.2
  obtain ⟨hae, l5, l6⟩ := l1 rfl
  refine ⟨fun c => ?_, fun c => ?_⟩
  · have hb : nT < 16 := by omega
    refine brT q11 ((m_go hE (by omega) t q11 tk (lo := a) (by omega) hae ((l5 hb).symm.trans hz)).mono (fun h1 x => ?_))
    obtain ⟨f1, g1⟩ := x
    have J1 : mJ T n Z a (2, 5, 0, nB, nT, tv) h1 := mJ.wk (Or.inr g1) (Nat.le_succ _)
    refine (m_takes hE (by omega) (f1.tp t) (lw := 1) (hi := 999) (by decide) (by decide) (stN_num (nr := 0) (by decide) (by decide) in_2.1) J1).mono (fun y2 h2 x => ?_)
    obtain ⟨f2, w1, b1, b1', z1, J2⟩ := x
    replace J2 : mJ T n Z a (2, 6, 1, nB, nT, rUp tv (8 + nT) 0 w1) h2 := J2
    have F2 := f1.trans f2
    refine (m_tb hE (by omega) (F2.tp t) (k := 1) (lw := 1) (hi := 99) (by decide) (by decide) (by decide) (show stW T n 1 (2, 6, 1, nB, nT, _) (2, 8, 1, nB, nT, _) from stW_word (by decide) (by decide) at_box.2.2.2.2.2.2.2.1) (stN_num (nr := 1) (by decide) (by decide) in_2.2.1) J2).mono (fun y3 h3 x => ?_)
    obtain ⟨f3, w2, b2, b2', z2, J3⟩ := x
    replace J3 : mJ T n Z a (2, 9, 2, nB, nT, rUp (rUp tv (8 + nT) 0 w1) (8 + nT) 1 w2) h3 := J3
    have F3 := F2.trans f3
    refine (m_tb hE (by omega) (F3.tp t) (k := 4) (lw := 1) (hi := 99) (by decide) (by decide) (by decide) (show stW T n 4 (2, 9, 2, nB, nT, _) (2, 15, 2, nB, nT, _) from stW_word (by decide) (by decide) at_box.2.2.2.2.2.2.2.2.1) (stN_num (nr := 2) (by decide) (by decide) in_2.2.2.1) J3).mono (fun y4 h4 x => ?_)
    obtain ⟨f4, w3, b3, b3', z3, J4⟩ := x
    replace J4 : mJ T n Z a (2, 16, 3, nB, nT, rUp (rUp (rUp tv (8 + nT) 0 w1) (8 + nT) 1 w2) (8 + nT) 2 w3) h4 := J4
    have F4 := F3.trans f4
    refine (m_tb hE (by omega) (F4.tp t) (k := 7) (lw := 0) (hi := 99) (by decide) (by decide) (by decide) (show stW T n 7 (2, 16, 3, nB, nT, _) (2, 21, 3, nB, nT, _) from stW_word (by decide) (by decide) at_box.2.2.2.2.2.2.2.2.2) (stN_num (nr := 3) (by decide) (by decide) in_2.2.2.2) J4).mono (fun y5 h5 x => ?_)
    obtain ⟨f5, w4, b4, b4', z4, J5⟩ := x
    replace J5 : mJ T n Z a (2, 22, 4, nB, nT, rUp (rUp (rUp (rUp tv (8 + nT) 0 w1) (8 + nT) 1 w2) (8 + nT) 2 w3) (8 + nT) 3 w4) h5 := J5
    have F5 := F4.trans f5
    rcases J5 with q | q
    · exact B_M_readThing_69 (brF q.ne ⟨F5.two, Or.inl q⟩)
    · have y4' := z4 q.1
      have y3' := z3 y4'.1
      have y2' := z2 y3'.1
      have y1' := z1 y2'.1
      rw [y4'.2, y3'.2, y2'.2, y1'.2]
      obtain ⟨V0, V1, V2, V3⟩ := V.keep F5
      refine B_M_readThing_69 (brT q.1 ?_)
      rw [show (8 : Int32) + nI nT = nI (8 + nT) by rw [show (8 : Int32) = nI 8 from rfl, nI_add]]
      refine (m_place hE (by omega) (8 + nT) 0).use ⟨in78 (by omega), ?_⟩
      rw [nIc (by omega)]
      refine (m_place hE (by omega) (8 + nT) 1).use ⟨in78 (by omega), ?_⟩
      rw [nIc (by omega)]
      refine (m_place hE (by omega) (8 + nT) 2).use ⟨in78 (by omega), ?_⟩
      rw [nIc (by omega)]
      refine (m_place hE (by omega) (8 + nT) 3).use ⟨in78 (by omega), in78 (k := 1) (by decide), in78 (k := 1) (by decide), ?_⟩
      rw [nIc (by omega)]
      have V4 := (((V3.up (i := 8 + nT) (k := 0) (v := w1) (by decide)).up (i := 8 + nT) (k := 1) (v := w2) (by decide)).up (i := 8 + nT) (k := 2) (v := w3) (by decide)).up (i := 8 + nT) (k := 3) (v := w4) (by decide)
      refine ⟨F5.two.a.a.a.a.a, Or.inr ⟨_, h8, hb, tvB_thing B h8 hb ⟨b1, b1'⟩ ⟨b2, b2'⟩ ⟨b3, b3'⟩ b4', ⟨?_, ?_, ?_, fun i k hi hk => ?_⟩, q⟩⟩
      · show (sA _ 78 1 _).2.1 78 0 = _
        rw [sA_i, if_neg (by omega), sA_i, if_neg (by omega), sA_i, if_neg (by omega), sA_i, if_neg (by omega), sA_i, if_neg (by omega), V0]
      · show (sA _ 78 1 _).2.1 78 1 = _
        rw [sA_i, if_pos rfl]
        show (sA _ 78 _ _).2.1 78 1 + 1 = _
        rw [sA_i, if_neg (by omega), sA_i, if_neg (by omega), sA_i, if_neg (by omega), sA_i, if_neg (by omega), V1, nI_1]
      · show (sA _ 78 1 _).2.1 78 2 = _
        rw [sA_i, if_neg (by omega), sA_i, if_neg (by omega), sA_i, if_neg (by omega), sA_i, if_neg (by omega), sA_i, if_neg (by omega), V2]
      · show (sA _ 78 1 _).2.1 78 (3 + 7 * i + k) = _
        rw [sA_i, if_neg (by omega)]
        exact V4 i k hi hk
  · obtain ⟨l7, l8⟩ := l6 (by omega)
    rw [hz] at l7 l8
    refine (m_fails hE (by omega) (f := 4) q11 tk.2.2.1 (by decide) tk.1 (by decide) (by decide) l7 l8).mono (fun h' x => brF x.2.ne ⟨x.1.two, Or.inl x.2⟩)
end LineM2
