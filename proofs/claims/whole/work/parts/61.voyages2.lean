theorem not_shl {i : Nat} (hi : i < 24) : (((1 : Int32) <<< (nI i &&& 31)) ^^^ (-1)).toBitVec = ~~~ (BitVec.twoPow 32 i) := (show ∀ i, i < 24 → (((1 : Int32) <<< (nI i &&& 31)) ^^^ (-1)).toBitVec = ~~~ (BitVec.twoPow 32 i) by decide) i hi
theorem mk_del {v : Int32} {P : Nat → Bool} (a : Mk v P) {i : Nat} (hi : i < 24) : Mk (v &&& (((1 : Int32) <<< (nI i &&& 31)) ^^^ (-1))) (fun j => P j && !(decide (j = i))) := fun j hj => by
  rw [Int32.toBitVec_and, BitVec.getLsbD_and, a j hj, not_shl hi, BitVec.getLsbD_not, BitVec.getLsbD_twoPow]
  by_cases c : j < 24
  · by_cases d : i = j
    · simp [c, d, hj]
    · simp [c, d, Ne.symm d, hj]
  · simp [c]
section Trips
variable {E : EnvX} {nB nT : Nat} {tv : Nat → Nat → Nat} {pk lv sn : Nat → Nat} {ck : Nat} {W : Nat → Bool}
theorem k87 : (akd 87 = 1 ∧ 5 ≤ aln 87 ∧ aln 87 < 2147483648) ∧ (akd 88 = 1 ∧ 5 ≤ aln 88 ∧ aln 88 < 2147483648) := by decide +kernel
theorem in87 {k : Nat} (hk : k < 5) : inI 87 (nI k) := inI_of k87.1.1 (by have := k87.1.2.1; omega) k87.1.2.2
theorem in88 {k : Nat} (hk : k < 5) : inI 88 (nI k) := inI_of k87.2.1 (by have := k87.2.2.1; omega) k87.2.2.2
def TrPost (pk lv : Nat → Nat) (W : Nat → Bool) (p s B val m : Nat) (pt : Nat → Nat) (h h' : Hp) : Prop := EqO (fun q => q = 74 ∨ q = 75 ∨ q = 87 ∨ q = 88) h h' ∧ h'.2.1 75 = h.2.1 75 ∧ (∀ k, k ≠ 32 → h'.1 74 k = h.1 74 k) ∧ (∀ t, t < p → h'.2.1 87 t = h.2.1 87 t) ∧ ((B = 0 ∨ s + val + 1 < B) → h'.1 74 32 = bx (s + val + 1) ∧ (∀ t, t < p → h'.2.1 88 t = h.2.1 87 t) ∧ ∀ t, t < m → h'.2.1 88 (p + t) = nI (pt t)) ∧ (¬ (B = 0 ∨ s + val + 1 < B) → h'.1 74 32 = bx B ∧ h'.2.1 88 = h.2.1 88)
theorem m_trips33 {L n : Nat} (hn : n ≤ 5) {h : Hp} (h31 : h.1 74 31 = nI n) {post : Hp → Prop} (H : ∀ h', EqO (fun q => q = 88) h h' → (∀ t, t < n → h'.2.1 88 t = h.2.1 87 t) → post h') : ∀ m k, m + k = n → ∀ h1, EqO (fun q => q = 88) h h1 → (∀ t, t < k → h1.2.1 88 t = h.2.1 87 t) → at_M_trips_33 E L h1 post (nI k) := by
  intro m
  induction m with
  | zero =>
    intro k hk h1 e a
    refine B_M_trips_33 ?_
    rw [(e 74 (by omega)).1, h31]
    rw [show k = n by omega] at a ⊢
    exact brT (nI_le (Nat.le_refl _) (by omega)) (H h1 e a)
  | succ m ih =>
    intro k hk h1 e a
    refine B_M_trips_33 ?_
    rw [(e 74 (by omega)).1, h31, nIc (by omega), nI_1]
    refine brF (nI_ge (by omega) (by omega)) ⟨in87 (by omega), in88 (by omega), ih (k + 1) (by omega) _ (e.trans (EqO.sA (F := fun q => q = 88) rfl)) (fun t ht => ?_)⟩
    rw [sA_A, if_pos rfl]
    by_cases d : t = k
    · rw [if_pos d, d, (e 87 (by omega)).2.1]
    · rw [if_neg d]; exact a t (by omega)
theorem m_trips (hE : EOk E) (hA : acy pk) (hO : OrdV pk lv sn ck) (hp : ∀ i, i < 24 → pk i ≤ 8) {n : Nat} (hn : n ≤ 5) : ∀ m p, m + p = n → ∀ (L : Nat), 8 + m ≤ L → ∀ (g : Nat → Bool) (s B : Nat) (h : Hp) (v1 : Int32), MdV h nB nT tv (pkG pk g) sn ck → Mk v1 (rmB W g) → lf W g = m → h.1 74 31 = nI n → h.1 74 32 = bx B → B ≤ 100000 → s + m * 216 ≤ 2000 → ConV E L m_M_trips 74 [.int v1, .int (nI p), .int (nI s)] h (fun h' => TrPost pk lv W p s B (opt pk lv W m g) m (pth pk lv W m g) h h') := by
  intro m
  induction m with
  | zero =>
    intro p hpn L hL g s B h v1 M mv hl h31 h32 hB hs
    have ng : ¬ (B = 0 ∨ s + 0 + 1 < B) → TrPost pk lv W p s B (opt pk lv W 0 g) 0 (pth pk lv W 0 g) h h := fun nb => ⟨EqO.rfl', rfl, fun _ _ => rfl, fun _ _ => rfl, fun z => absurd z nb, fun _ => ⟨h32, rfl⟩⟩
    have go : (B = 0 ∨ s + 0 + 1 < B) → at_M_trips_33 E L (sI h 74 32 (nI s)) (fun h' => TrPost pk lv W p s B (opt pk lv W 0 g) 0 (pth pk lv W 0 g) h h') 0 := by
      intro b
      refine m_trips33 (E := E) (L := L) hn (h := sI h 74 32 (nI s)) ?_ (fun h' e a => ?_) n 0 (by omega) _ EqO.rfl' (fun t ht => absurd ht (Nat.not_lt_zero t))
      · rw [← h31, sI_1, if_pos rfl, if_neg (by omega)]
      · have e0 : EqO (fun q => q = 74) h (sI h 74 32 (nI s)) := EqO.sI (F := fun q => q = 74) rfl
        refine ⟨(e0.wk (fun q z => by omega)).trans (e.wk (fun q z => by omega)), ?_, fun k hk => ?_, fun t ht => ?_, fun _ => ⟨?_, fun t ht => ?_, fun t ht => absurd ht (Nat.not_lt_zero t)⟩, fun z => absurd b z⟩
        · rw [(e 75 (by omega)).2.1]; rfl
        · rw [(e 74 (by omega)).1, sI_1, if_pos rfl, if_neg hk]
        · rw [(e 87 (by omega)).2.1]; rfl
        · rw [(e 74 (by omega)).1, sI_1, if_pos rfl, if_pos rfl, bx_S]; rfl
        · exact a t (by omega)
    refine B_M_trips hE (by omega) ?_
    rw [h31, h32, bx_m1 (by omega), nIe (by omega) (by omega)]
    refine ⟨fun b => ⟨fun c => absurd (by omega) c, fun _ => go (Or.inl b)⟩, fun b => ?_⟩
    rw [bx_pos (by omega), nIt (by omega) (by omega)]
    exact ⟨fun c => ⟨fun d => absurd (by omega) d, fun _ => go (Or.inr (by omega))⟩, fun c => ng (by omega)⟩
  | succ m ih =>
    intro p hpn L hL g s B h v1 M mv hl h31 h32 hB hs
    have ng : ¬ (B = 0 ∨ s + opt pk lv W (m + 1) g + 1 < B) → TrPost pk lv W p s B (opt pk lv W (m + 1) g) (m + 1) (pth pk lv W (m + 1) g) h h := fun nb => ⟨EqO.rfl', rfl, fun _ _ => rfl, fun _ _ => rfl, fun z => absurd z nb, fun _ => ⟨h32, rfl⟩⟩
    have main : ∀ f i, f + i = 24 → ∀ h1, EqO (fun q => q = 74 ∨ q = 75 ∨ q = 87 ∨ q = 88) h h1 → h1.2.1 75 = h.2.1 75 → (∀ k, k ≠ 32 → h1.1 74 k = h.1 74 k) → (∀ t, t < p → h1.2.1 87 t = h.2.1 87 t) → (((amO pk lv W m g i).1 ≠ 0 ∧ (B = 0 ∨ s + (amO pk lv W m g i).2 + 1 < B)) → h1.1 74 32 = bx (s + (amO pk lv W m g i).2 + 1) ∧ (∀ t, t < p → h1.2.1 88 t = h.2.1 87 t) ∧ h1.2.1 88 p = nI ((amO pk lv W m g i).1 - 1) ∧ ∀ t, t < m → h1.2.1 88 (p + 1 + t) = nI (pth pk lv W m (adG g ((amO pk lv W m g i).1 - 1)) t)) → (¬ ((amO pk lv W m g i).1 ≠ 0 ∧ (B = 0 ∨ s + (amO pk lv W m g i).2 + 1 < B)) → h1.1 74 32 = bx B ∧ h1.2.1 88 = h.2.1 88) → at_M_trips_66 E L h1 (fun h' => TrPost pk lv W p s B (opt pk lv W (m + 1) g) (m + 1) (pth pk lv W (m + 1) g) h h') v1 (nI p) (nI s) (nI i) := by
      intro f
      induction f with
      | zero =>
        intro i hi h1 e e75 e74 e87 y n'
        rw [show i = 24 by omega] at y n' ⊢
        have nz := lf_am (pk := pk) (lv := lv) hl
        refine B_M_trips_66 (brT (nEnd 24) ⟨e, e75, e74, e87, fun b => ?_, fun b => n' (fun z => b z.2)⟩)
        obtain ⟨y1, y2, y3, y4⟩ := y ⟨nz, b⟩
        refine ⟨y1, y2, fun t ht => ?_⟩
        cases t with
        | zero => exact y3
        | succ t => rw [show p + (t + 1) = p + 1 + t by omega]; exact y4 t (by omega)
      | succ f ihf =>
        intro i hi h1 e e75 e74 e87 y n'
        have i24 : i < 24 := by omega
        refine B_M_trips_66 (brF (nG 24 i24) ?_)
        rw [mk_test mv i24, nI_1]
        by_cases r : rmB W g i = true
        · rw [if_pos r]
          have M1 : MdV h1 nB nT tv (pkG pk g) sn ck := MsV_eq M e75
          have l1 := m_lifts hE (L := L - 1) (by omega) M1 hA hO hp i24
          have ll := lft_le pk lv g 9 (i + 1)
          have oll := opt_le (pk := pk) (lv := lv) (W := W) m (adG g i)
          have hlm : lf W (adG g i) = m := by have := lf_ad i24 r; omega
          have mv2 : Mk (v1 &&& (((1 : Int32) <<< (nI i &&& 31)) ^^^ (-1))) (rmB W (adG g i)) := mk_cong (mk_del mv i24) (fun j _ => by unfold rmB adG; cases W j <;> cases g j <;> simp)
          have M3 : MdV (sA (sA h1 75 (171 + i) 0) 87 p (nI i)) nB nT tv (pkG pk (adG g i)) sn ck := by
            have z := sT_MsV M1 i24
            rw [pkG_up] at z
            exact MsV_eq z ((EqO.sA (F := fun q => q = 87) rfl) 75 (by omega)).2.1
          obtain ⟨B1, hB1, b32, bc, bn⟩ : ∃ B1, B1 ≤ 100000 ∧ h1.1 74 32 = bx B1 ∧ (((amO pk lv W m g i).1 ≠ 0 ∧ (B = 0 ∨ s + (amO pk lv W m g i).2 + 1 < B)) → B1 = s + (amO pk lv W m g i).2 + 1) ∧ (¬ ((amO pk lv W m g i).1 ≠ 0 ∧ (B = 0 ∨ s + (amO pk lv W m g i).2 + 1 < B)) → B1 = B) := by
            by_cases c : (amO pk lv W m g i).1 ≠ 0 ∧ (B = 0 ∨ s + (amO pk lv W m g i).2 + 1 < B)
            · refine ⟨s + (amO pk lv W m g i).2 + 1, ?_, (y c).1, fun _ => rfl, fun z => absurd c z⟩
              have e2 := (am_yes c.1).2.2
              have o2 := opt_le (pk := pk) (lv := lv) (W := W) m (adG g ((amO pk lv W m g i).1 - 1))
              have l2 := lft_le pk lv g 9 ((amO pk lv W m g i).1 - 1 + 1)
              have e3 : (amO pk lv W m g i).2 = lft pk lv g 9 ((amO pk lv W m g i).1 - 1 + 1) + opt pk lv W m (adG g ((amO pk lv W m g i).1 - 1)) := e2
              omega
            · exact ⟨B, hB, (n' c).1, fun z => absurd z c, fun _ => rfl⟩
          have f3 : (sA (sA h1 75 (171 + i) 0) 87 p (nI i)).1 = h1.1 := rfl
          have rc := ih (p + 1) (by omega) (L - 1) (by omega) (adG g i) (s + lft pk lv g 9 (i + 1)) B1 (sA (sA h1 75 (171 + i) 0) 87 p (nI i)) _ M3 mv2 hlm (by rw [f3, e74 31 (by omega)]; exact h31) (by rw [f3]; exact b32) hB1 (by omega)
          rw [show (171 : Int32) = nI 171 from rfl, nI_add, nIc (by omega), nIc (by omega), nI_1]
          refine brF' (by decide) ⟨in75 (by omega), l1.use ?_⟩
          rw [nI_add]
          refine ⟨in87 (by omega), rc.mono (fun h4 z4 => ⟨in75 (by omega), ?_⟩)⟩
          obtain ⟨o1, o2, o3, o4, o5, o6⟩ := z4
          have v87 : ∀ t, (sA (sA h1 75 (171 + i) 0) 87 p (nI i)).2.1 87 t = if t = p then nI i else h1.2.1 87 t := fun t => by rw [sA_A, if_pos rfl]; rfl
          have v88 : (sA (sA h1 75 (171 + i) 0) 87 p (nI i)).2.1 88 = h1.2.1 88 := rfl
          have w88 : (sA h4 75 (171 + i) (h1.2.1 75 (171 + i))).2.1 88 = h4.2.1 88 := ((EqO.sA (F := fun q => q = 75) rfl) 88 (by omega)).2.1
          have w87 : (sA h4 75 (171 + i) (h1.2.1 75 (171 + i))).2.1 87 = h4.2.1 87 := ((EqO.sA (F := fun q => q = 75) rfl) 87 (by omega)).2.1
          have aS : amO pk lv W m g (i + 1) = if (amO pk lv W m g i).1 = 0 ∨ lft pk lv g 9 (i + 1) + opt pk lv W m (adG g i) < (amO pk lv W m g i).2 then (i + 1, lft pk lv g 9 (i + 1) + opt pk lv W m (adG g i)) else amO pk lv W m g i := by
            show am _ _ (i + 1) = _
            rw [am_s, if_pos r]; rfl
          have eqo : EqO (fun q => q = 74 ∨ q = 75 ∨ q = 87 ∨ q = 88) h (sA h4 75 (171 + i) (h1.2.1 75 (171 + i))) := (((e.trans (EqO.sA (F := fun q => q = 74 ∨ q = 75 ∨ q = 87 ∨ q = 88) (by omega))).trans (EqO.sA (F := fun q => q = 74 ∨ q = 75 ∨ q = 87 ∨ q = 88) (by omega))).trans o1).trans (EqO.sA (F := fun q => q = 74 ∨ q = 75 ∨ q = 87 ∨ q = 88) (by omega))
          refine ihf (i + 1) (by omega) _ eqo ?_ (fun k hk => ?_) (fun t ht => ?_) (fun c => ?_) (fun c => ?_)
          · refine funext (fun k => ?_)
            rw [sA_A, if_pos rfl, ← e75, o2]
            by_cases d : k = 171 + i
            · rw [if_pos d, d]
            · rw [if_neg d, sA_A, if_neg (by omega), sA_A, if_pos rfl, if_neg d]
          · show h4.1 74 k = _
            rw [o3 k hk, f3, e74 k hk]
          · rw [w87, o4 t (by omega), v87, if_neg (by omega), e87 t ht]
          · rw [aS] at c ⊢
            by_cases d : (amO pk lv W m g i).1 = 0 ∨ lft pk lv g 9 (i + 1) + opt pk lv W m (adG g i) < (amO pk lv W m g i).2
            · rw [if_pos d] at c ⊢
              have bt : B1 = 0 ∨ s + lft pk lv g 9 (i + 1) + opt pk lv W m (adG g i) + 1 < B1 := by
                by_cases ci : (amO pk lv W m g i).1 ≠ 0 ∧ (B = 0 ∨ s + (amO pk lv W m g i).2 + 1 < B)
                · have := bc ci
                  rcases d with d | d
                  · exact absurd d ci.1
                  · exact Or.inr (by omega)
                · rw [bn ci]
                  rcases c.2 with c2 | c2
                  · exact Or.inl c2
                  · exact Or.inr (by omega)
              obtain ⟨x1, x2, x3⟩ := o5 bt
              refine ⟨?_, fun t ht => ?_, ?_, fun t ht => ?_⟩
              · show h4.1 74 32 = _
                rw [x1]; congr 1; omega
              · rw [w88, x2 t (by omega), v87, if_neg (by omega), e87 t ht]
              · rw [w88, x2 p (by omega), v87, if_pos rfl]; rfl
              · rw [w88]; exact x3 t ht
            · rw [if_neg d] at c ⊢
              have nb : ¬ (B1 = 0 ∨ s + lft pk lv g 9 (i + 1) + opt pk lv W m (adG g i) + 1 < B1) := by
                have := bc c
                omega
              obtain ⟨x1, x2⟩ := o6 nb
              obtain ⟨y1, y2, y3, y4⟩ := y c
              refine ⟨?_, fun t ht => ?_, ?_, fun t ht => ?_⟩
              · show h4.1 74 32 = _
                rw [x1, bc c]
              · rw [w88, x2, v88, y2 t ht]
              · rw [w88, x2, v88, y3]
              · rw [w88, x2, v88, y4 t ht]
          · rw [aS] at c
            have cn : ¬ ((amO pk lv W m g i).1 ≠ 0 ∧ (B = 0 ∨ s + (amO pk lv W m g i).2 + 1 < B)) := by
              intro ci
              apply c
              by_cases d : (amO pk lv W m g i).1 = 0 ∨ lft pk lv g 9 (i + 1) + opt pk lv W m (adG g i) < (amO pk lv W m g i).2
              · rw [if_pos d]
                refine ⟨Nat.succ_ne_zero _, ?_⟩
                have d2 := d.resolve_left ci.1
                rcases ci.2 with z | z
                · exact Or.inl z
                · refine Or.inr ?_
                  show s + (lft pk lv g 9 (i + 1) + opt pk lv W m (adG g i)) + 1 < B
                  omega
              · rw [if_neg d]; exact ci
            have nb : ¬ (B1 = 0 ∨ s + lft pk lv g 9 (i + 1) + opt pk lv W m (adG g i) + 1 < B1) := by
              rw [bn cn]
              intro z
              apply c
              by_cases d : (amO pk lv W m g i).1 = 0 ∨ lft pk lv g 9 (i + 1) + opt pk lv W m (adG g i) < (amO pk lv W m g i).2
              · rw [if_pos d]
                refine ⟨Nat.succ_ne_zero _, z.imp_right (fun w => ?_)⟩
                show s + (lft pk lv g 9 (i + 1) + opt pk lv W m (adG g i)) + 1 < B
                omega
              · rw [if_neg d]
                have d1 : (amO pk lv W m g i).1 ≠ 0 := fun w => d (Or.inl w)
                refine ⟨d1, z.imp_right (fun w => ?_)⟩
                have d2 : ¬ lft pk lv g 9 (i + 1) + opt pk lv W m (adG g i) < (amO pk lv W m g i).2 := fun w => d (Or.inr w)
                omega
            obtain ⟨x1, x2⟩ := o6 nb
            obtain ⟨n1, n2⟩ := n' cn
            refine ⟨?_, ?_⟩
            · show h4.1 74 32 = _
              rw [x1, bn cn]
            · rw [w88, x2, v88, n2]
        · rw [if_neg r, nI_1]
          have aS : amO pk lv W m g (i + 1) = amO pk lv W m g i := by
            show am _ _ (i + 1) = _
            rw [am_s, if_neg r]; rfl
          rw [← aS] at y n'
          exact brT' rfl (ihf (i + 1) (by omega) h1 e e75 e74 e87 y n')
    have go : at_M_trips_66 E L h (fun h' => TrPost pk lv W p s B (opt pk lv W (m + 1) g) (m + 1) (pth pk lv W (m + 1) g) h h') v1 (nI p) (nI s) 0 := main 24 0 (by omega) h EqO.rfl' rfl (fun _ _ => rfl) (fun _ _ => rfl) (fun c => absurd rfl c.1) (fun _ => ⟨h32, rfl⟩)
    refine B_M_trips hE (by omega) ?_
    rw [h31, h32, bx_m1 (by omega), nIe (by omega) (by omega)]
    refine ⟨fun b => ⟨fun _ => go, fun c => absurd c (by omega)⟩, fun b => ?_⟩
    rw [bx_pos (by omega), nIt (by omega) (by omega)]
    exact ⟨fun c => ⟨fun _ => go, fun d => absurd d (by omega)⟩, fun c => ng (by omega)⟩
end Trips
