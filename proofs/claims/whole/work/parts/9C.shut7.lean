section Shut9
variable {E : EnvX} {L : Nat} {h : Hp} {nB nT : Nat} {tv : Nat → Nat → Nat} {pk sn : Nat → Nat} {ck : Nat}
theorem k83 : (akd 83 = 1 ∧ 6 ≤ aln 83 ∧ aln 83 < 2147483648) ∧ (akd 84 = 1 ∧ 6 ≤ aln 84 ∧ aln 84 < 2147483648) := by decide +kernel
theorem in83 {k : Nat} (hk : k < 6) : inI 83 (nI k) ∧ inI 84 (nI k) := ⟨inI_of k83.1.1 (by have := k83.1.2.1; omega) k83.1.2.2, inI_of k83.2.1 (by have := k83.2.2.1; omega) k83.2.2.2⟩
theorem sP_MsV (M : MdV h nB nT tv pk sn ck) {i v : Nat} (hi : isIt nB nT i) (hv : v ≤ 8) : MdV (sA h 75 (171 + i) (nI v)) nB nT tv (upN pk i v) sn ck := by
  obtain ⟨⟨h8, h16, hc⟩, ⟨e0, e1, e2, e3⟩, m1, m2, m3, m4⟩ := M
  have i24 : i < 24 := by rcases hi with q | q <;> omega
  have rd : ∀ k, (sA h 75 (171 + i) (nI v)).2.1 75 k = if k = 171 + i then nI v else h.2.1 75 k := fun k => by
    rw [sA_A, if_pos rfl]
  refine ⟨⟨h8, h16, hc⟩, ⟨?_, ?_, ?_, ?_⟩, fun j k hj hk => ?_, fun j hj => ?_, fun j hj => ?_, fun j hj q => ?_⟩
  · rw [rd, if_neg (by omega)]; exact e0
  · rw [rd, if_neg (by omega)]; exact e1
  · rw [rd, if_neg (by omega)]; exact e2
  · rw [rd, if_neg (by omega)]; exact e3
  · rw [rd, if_neg (by omega)]; exact m1 j k hj hk
  · rw [rd]
    unfold upN
    by_cases e : j = i
    · rw [if_pos (by omega), if_pos e]; exact ⟨rfl, hv⟩
    · rw [if_neg (by omega), if_neg e]; exact m2 j hj
  · rw [rd, if_neg (by omega)]; exact m3 j hj
  · rw [upN_n (fun e => q (by rw [e]; exact hi))]; exact m4 j hj q
/-- only field 17 of the reference's -/
def F17 (h h' : Hp) : Prop := (∀ q, q ≠ 74 → h'.1 q = h.1 q) ∧ (∀ k, k ≠ 17 → h'.1 74 k = h.1 74 k) ∧ h'.2 = h.2
theorem F17.s {v : Int32} : F17 h (sI h 74 17 v) := ⟨fun q hq => if_neg hq, fun k hk => by rw [sI_1, if_pos rfl, if_neg hk], rfl⟩
theorem F17.trans {h1 h2 : Hp} (a : F17 h h1) (b : F17 h1 h2) : F17 h h2 := ⟨fun q hq => (b.1 q hq).trans (a.1 q hq), fun k hk => (b.2.1 k hk).trans (a.2.1 k hk), b.2.2.trans a.2.2⟩
theorem m_fw17 (hE : EOk E) (hL : 8 ≤ L) (M : MdV h nB nT tv pk sn ck) (hp : ∀ i, i < 24 → pk i ≤ nB) : ConI E L m_M_firstWrong 74 [] h (fun _ h' => F17 h h' ∧ h'.1 74 17 = nI (wrg pk tv nB 0).1) := by
  have h8 := M.1.1
  have f17 : ∀ (h0 : Hp) (v : Int32), (sI h0 74 17 v).1 74 17 = v := fun h0 v => by rw [sI_1, if_pos rfl, if_pos rfl]
  refine B_M_firstWrong hE (by omega) (m_fw7 hE (by omega) (h := sI h 74 17 2) M ⟨fun c1 => ?_, fun c1 => ?_⟩)
  · have hA : acy pk := acy_of hp h8 (fun b hb => by
      rcases findF_min (fun b => wi pk (b + 1) 8 (b + 1)) nB 0 with ⟨-, q⟩ | ⟨j, -, -, -, q, -⟩
      · exact q b (Nat.zero_le _) (by omega)
      · unfold fIn at c1; rw [q] at c1; exact absurd c1 (Nat.succ_ne_zero j))
    refine m_fw40 hE (by omega) (h := sI (sI h 74 17 2) 74 17 3) M ⟨fun c2 => ?_, fun c2 => ?_⟩
    · refine m_fw97 hE (by omega) (h := sI (sI (sI h 74 17 2) 74 17 3) 74 17 4) M hA ⟨fun c3 => ?_, fun c3 => ?_⟩
      · refine m_fw137 hE (by omega) (h := sI (sI (sI (sI h 74 17 2) 74 17 3) 74 17 4) 74 17 5) M ⟨fun c4 => ?_, fun c4 => ?_⟩
        · have e : wrg pk tv nB 0 = (0, 0) := by unfold wrg; rw [c1, c2, c3, c4, blm_0, blm_0, blm_0, blm_0, blm_0]
          rw [e]
          exact ⟨(((F17.s.trans F17.s).trans F17.s).trans F17.s).trans F17.s, f17 _ _⟩
        · have e : wrg pk tv nB 0 = (5, fFl pk tv nB) := by unfold wrg; rw [c1, c2, c3, blm_0, blm_0, blm_0, blm_0, blm_y c4]
          rw [e]
          exact ⟨((F17.s.trans F17.s).trans F17.s).trans F17.s, f17 _ _⟩
      · have e : wrg pk tv nB 0 = (4, fHv pk tv nB) := by unfold wrg; rw [c1, c2, blm_0, blm_0, blm_0, blm_y c3, blm_p (a := 4) (c := fHv pk tv nB) (by decide)]
        rw [e]
        exact ⟨(F17.s.trans F17.s).trans F17.s, f17 _ _⟩
    · have e : wrg pk tv nB 0 = (3, fWd pk tv) := by unfold wrg; rw [c1, blm_0, blm_0, blm_y c2, blm_p (a := 3) (c := fWd pk tv) (by decide), blm_p (a := 3) (c := fWd pk tv) (by decide)]
      rw [e]
      exact ⟨F17.s.trans F17.s, f17 _ _⟩
  · have e : wrg pk tv nB 0 = (2, fIn pk nB) := by unfold wrg; rw [blm_0, blm_y c1, blm_p (a := 2) (c := fIn pk nB) (by decide), blm_p (a := 2) (c := fIn pk nB) (by decide), blm_p (a := 2) (c := fIn pk nB) (by decide)]
    rw [e]
    exact ⟨F17.s, f17 _ _⟩
/-- all that lies in a box lies deep in b -/
theorem deep (hA : acy pk) (hp : ∀ i, i < 24 → pk i ≤ 8) {b : Nat} (H : ∀ i, i < 24 → pk i ≠ 0 → pk i = b + 1 ∨ pk (pk i - 1) ≠ 0) {i : Nat} (hi : i < 24) (h0 : pk i ≠ 0) : wi pk (b + 1) 8 (i + 1) = true := by
  rw [wi_iff hA (by omega) (by omega)]
  by_cases q : ∃ m, itn pk (m + 1) (i + 1) = b + 1
  · exact q
  · exfalso
    have key : ∀ m, itn pk m (i + 1) ≠ 0 ∧ itn pk m (i + 1) ≤ 24 ∧ pk (itn pk m (i + 1) - 1) ≠ 0 := by
      intro m
      induction m with
      | zero => exact ⟨Nat.succ_ne_zero i, hi, h0⟩
      | succ m ih =>
        obtain ⟨a1, a2, a3⟩ := ih
        have e : itn pk (m + 1) (i + 1) = pk (itn pk m (i + 1) - 1) := by rw [itn_end]; unfold nx; rw [if_neg a1]
        have hb : itn pk (m + 1) (i + 1) ≠ b + 1 := fun z => q ⟨m, z⟩
        have p8 := hp (itn pk m (i + 1) - 1) (by omega)
        rw [e] at hb ⊢
        refine ⟨a3, by omega, ?_⟩
        rcases H (itn pk m (i + 1) - 1) (by omega) a3 with z | z
        · exact absurd z hb
        · exact z
    exact (key 9).1 (hA (i + 1) (by omega))
/-- what the reference's search touches -/
def shF (h h' : Hp) : Prop := EqO (fun q => q = 74 ∨ q = 75 ∨ q = 84) h h' ∧ (∀ k, k ≠ 17 → k ≠ 25 → h'.1 74 k = h.1 74 k) ∧ ∀ k, (k < 171 ∨ 195 ≤ k) → h'.2.1 75 k = h.2.1 75 k
theorem shF.rfl' : shF h h := ⟨EqO.rfl', fun _ _ _ => rfl, fun _ _ => rfl⟩
theorem shF.trans {h1 h2 : Hp} (a : shF h h1) (b : shF h1 h2) : shF h h2 := ⟨a.1.trans b.1, fun k h1 h2 => (b.2.1 k h1 h2).trans (a.2.1 k h1 h2), fun k hk => (b.2.2 k hk).trans (a.2.2 k hk)⟩
theorem shF.f17 {h1 : Hp} (a : F17 h h1) : shF h h1 := ⟨fun q hq => ⟨a.1 q (fun e => hq (Or.inl e)), by rw [a.2.2], by rw [a.2.2]⟩, fun k h1 _ => a.2.1 k h1, fun k _ => by rw [a.2.2]⟩
theorem shF.f25 {v : Int32} : shF h (sI h 74 25 v) := ⟨EqO.sI (F := fun q => q = 74 ∨ q = 75 ∨ q = 84) (Or.inl rfl), fun k _ h2 => by rw [sI_1, if_pos rfl, if_neg h2], fun _ _ => rfl⟩
theorem shF.a75 {i : Nat} {v : Int32} (hi : i < 24) : shF h (sA h 75 (171 + i) v) := ⟨EqO.sA (F := fun q => q = 74 ∨ q = 75 ∨ q = 84) (Or.inr (Or.inl rfl)), fun _ _ _ => rfl, fun k hk => by rw [sA_i, if_neg (by omega)]⟩
theorem shF.a84 {i : Nat} {v : Int32} : shF h (sA h 84 i v) := ⟨EqO.sA (F := fun q => q = 74 ∨ q = 75 ∨ q = 84) (Or.inr (Or.inr rfl)), fun _ _ _ => rfl, fun k hk => by rw [sA_o (by omega)]⟩
variable {it : Nat → Nat} {Hs : Nat → Bool} {m : Nat}
def muP (tv : Nat → Nat → Nat) (nB nT : Nat) (sn : Nat → Nat) (ck : Nat) (it : Nat → Nat) (Hs : Nat → Bool) (m k f : Nat) (pk : Nat → Nat) (w : Nat) (h h' : Hp) : Prop := shF h h' ∧ (∃ q, MdV h' nB nT tv q sn ck ∧ (∀ i, i < 24 → q i ≤ nB) ∧ ∀ i, i < 24 → (∀ j, k ≤ j → j < m → i ≠ it j) → q i = pk i) ∧ h'.1 74 25 = nI (w + wy tv nB it Hs m f pk) ∧ ((w ≠ 0 ∨ wy tv nB it Hs m f pk = 0) → h'.2.1 84 = h.2.1 84) ∧ (w = 0 → wy tv nB it Hs m f pk ≠ 0 → ∀ j, j < m → h'.2.1 84 j = bx (fw tv nB it Hs m f pk (it j)))
theorem m_leaf (hE : EOk E) (hL : 10 ≤ L) (m6 : m ≤ 6) {b : Nat} (hb : b < nB) (itI : ∀ j, j < m → isIt nB nT (it j)) {x : Nat} (M : MdV h nB nT tv pk sn ck) (hp : ∀ i, i < 24 → pk i ≤ nB) (sh : ∀ j, j < m → pk (it j) ≠ 0) (s0 : ∀ i, i < 24 → pk i ≠ 0 → pk i = b + 1 ∨ pk (pk i - 1) ≠ 0) {w : Nat} (a4 : h.1 74 24 = nI m) (a5 : h.1 74 25 = nI w) (a3 : ∀ j, j < m → h.2.1 83 j = nI (it j)) (wb : w < 1000000) : ConV E L m_M_shuts 74 [.int (nI b), .int (nI x), .int (nI m)] h (muP tv nB nT sn ck it Hs m m 0 pk w h) := by
  have h8 := M.1.1
  have h16 := M.1.2.1
  have i24 : ∀ j, j < m → it j < 24 := fun j hj => by rcases itI j hj with q | q <;> omega
  refine B_M_shuts hE (by omega) ?_
  rw [a4]
  refine brT' rfl ((m_fw17 hE (by omega) M hp).mono (fun y h1 z => ?_))
  obtain ⟨F1, e17⟩ := z
  have M1 : MdV h1 nB nT tv pk sn ck := MsV_eq M (by rw [F1.2.2])
  have g4 : h1.1 74 24 = nI m := by rw [F1.2.1 24 (by omega)]; exact a4
  have g5 : h1.1 74 25 = nI w := by rw [F1.2.1 25 (by omega)]; exact a5
  have g3 : ∀ j, j < m → h1.2.1 83 j = nI (it j) := fun j hj => by rw [F1.2.2]; exact a3 j hj
  have fin : ∃ q, MdV h1 nB nT tv q sn ck ∧ (∀ i, i < 24 → q i ≤ nB) ∧ ∀ i, i < 24 → (∀ j, m ≤ j → j < m → i ≠ it j) → q i = pk i := ⟨pk, M1, hp, fun _ _ _ => rfl⟩
  rw [e17, nI_z (Nat.lt_of_lt_of_le wrg_lt (by decide))]
  refine ⟨fun c => ?_, fun c => ?_⟩
  · have w0 : wy tv nB it Hs m 0 pk = 0 := by show (if (wrg pk tv nB 0).1 = 0 then 1 else 0) = 0; rw [if_neg c]
    have P : muP tv nB nT sn ck it Hs m m 0 pk w h h1 := ⟨shF.f17 F1, fin, by rw [w0]; exact g5, fun _ => by rw [F1.2.2], fun _ z => absurd w0 z⟩
    refine B_M_shuts_30 ?_
    exact ⟨fun _ => ⟨fun z => absurd rfl z, fun _ => P⟩, fun _ => ⟨fun _ => ⟨fun z => absurd rfl z, fun _ => P⟩, fun z => absurd rfl z⟩⟩
  · have hA : acy pk := ((wrg_iff hp h8).mp c).1
    have w1 : wy tv nB it Hs m 0 pk = 1 := by show (if (wrg pk tv nB 0).1 = 0 then 1 else 0) = 1; rw [if_pos c]
    have hp8 : ∀ i, i < 24 → pk i ≤ 8 := fun i hi => Nat.le_trans (hp i hi) h8
    have l73 : ∀ g j, g + j = m → ∀ h2, shF h1 h2 → h2.1 74 25 = nI w → (w ≠ 0 → h2.2.1 84 = h1.2.1 84) → (w = 0 → ∀ i, i < j → h2.2.1 84 i = bx (pk (it i))) → h2.2.1 75 = h1.2.1 75 → at_M_shuts_73 E L h2 (muP tv nB nT sn ck it Hs m m 0 pk w h) (nI j) := by
      intro g
      induction g with
      | zero =>
        intro j hj h2 f2 t5 u1 u2 e75
        have ej : j = m := by omega
        subst ej
        refine B_M_shuts_73 ?_
        rw [f2.2.1 24 (by omega) (by omega), g4, t5, nI_1]
        refine brT (nI_le (Nat.le_refl _) (by omega)) ⟨((shF.f17 F1).trans f2).trans shF.f25, ⟨pk, MsV_eq M1 e75, hp, fun _ _ _ => rfl⟩, by rw [sI_1, if_pos rfl, if_pos rfl, w1], fun z => ?_, fun z _ i hi => u2 z i hi⟩
        rcases z with z | z
        · exact (u1 z).trans (by rw [F1.2.2])
        · omega
      | succ g ih =>
        intro j hj h2 f2 t5 u1 u2 e75
        refine B_M_shuts_73 ?_
        rw [f2.2.1 24 (by omega) (by omega), g4, t5, nI_1, nI_1, nI_z (by omega)]
        refine brF (nI_ge (by omega) (by omega)) ⟨fun wz => ?_, fun wz => ?_⟩
        · refine ⟨((shF.f17 F1).trans f2).trans shF.f25, ⟨pk, MsV_eq M1 e75, hp, fun _ _ _ => rfl⟩, by rw [sI_1, if_pos rfl, if_pos rfl, w1], fun _ => (u1 wz).trans (by rw [F1.2.2]), fun z => absurd z wz⟩
        · rw [nIc (by omega), show h2.2.1 83 j = nI (it j) by rw [(f2.1 83 (by omega)).2.1]; exact g3 j (by omega)]
          have M2 : MdV h2 nB nT tv pk sn ck := MsV_eq M1 e75
          refine ⟨(in83 (by omega)).1, (m_around hE (by omega) M2 (i24 j (by omega))).use ⟨(in83 (by omega)).2, ih (j + 1) (by omega) _ (f2.trans shF.a84) t5 (fun z => absurd wz z) (fun _ i hi => ?_) (by rw [sA_o (by omega)]; exact e75)⟩⟩
          rw [sA_i]
          by_cases d : i = j
          · rw [if_pos d, d]
          · rw [if_neg d]; exact u2 wz i (by omega)
    have l30 : ∀ g j, g + j = m → at_M_shuts_30 E L h1 (muP tv nB nT sn ck it Hs m m 0 pk w h) (nI b) 1 (nI j) := by
      intro g
      induction g with
      | zero =>
        intro j hj
        refine B_M_shuts_30 ?_
        rw [g4]
        exact brT (nI_le (by omega) (by omega)) (brF' (by decide) (l73 m 0 (by omega) h1 shF.rfl' g5 (fun _ => rfl) (fun _ i hi => absurd hi (Nat.not_lt_zero i)) rfl))
      | succ g ih =>
        intro j hj
        refine B_M_shuts_30 ?_
        have dp := m_isDeepIn hE (L := L - 1) (by omega) M1 hA (i := it j) (d := b + 1) (i24 j (by omega)) (by omega) (by omega)
        rw [if_pos (deep hA hp8 s0 (i24 j (by omega)) (sh j (by omega))), bx_S] at dp
        rw [g4, nIc (by omega), g3 j (by omega), nI_1]
        exact brF (nI_ge (by omega) (by omega)) (brF (by decide) ⟨(in83 (by omega)).1, dp.use (ih (j + 1) (by omega))⟩)
    exact l30 m 0 (by omega)
end Shut9
