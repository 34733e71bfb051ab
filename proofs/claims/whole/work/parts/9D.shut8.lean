section Shut10
variable {E : EnvX} {nB nT : Nat} {tv : Nat → Nat → Nat} {sn : Nat → Nat} {ck : Nat} {it : Nat → Nat} {m : Nat}
theorem m_shuts (hE : EOk E) (m6 : m ≤ 6) {b x : Nat} (hb : b < nB) (hx : x < 16777216) (itI : ∀ j, j < m → isIt nB nT (it j)) (inj : ∀ i j, i < m → j < m → it i = it j → i = j) (xs : ∀ c, c < nB → x.testBit c = true → ∃ j, j < m ∧ it j = c) : ∀ f k, f + k = m → ∀ (L : Nat), 10 + f ≤ L → ∀ (h : Hp) (q pk : Nat → Nat) (w : Nat), MdV h nB nT tv q sn ck → (∀ i, i < 24 → q i ≤ nB) → (∀ i, i < 24 → (∀ j, k ≤ j → j < m → i ≠ it j) → q i = pk i) → (∀ i, i < 24 → pk i ≤ nB) → (∀ j, j < k → ∃ c, hoS nB x b c = true ∧ pk (it j) = c + 1) → (∀ i, i < 24 → (∀ j, j < m → i ≠ it j) → pk i = 0) → h.1 74 24 = nI m → h.1 74 25 = nI w → (∀ j, j < m → h.2.1 83 j = nI (it j)) → w + wy tv nB it (hoS nB x b) m f pk < 1000000 → ConV E L m_M_shuts 74 [.int (nI b), .int (nI x), .int (nI k)] h (muP tv nB nT sn ck it (hoS nB x b) m k f pk w h) := by
  intro f
  induction f with
  | zero =>
    intro k hk L hL h q pk w M hq eq hp shp h0 a4 a5 a3 wb
    have ek : k = m := by omega
    subst ek
    have M' : MdV h nB nT tv pk sn ck := MsV_pk M (fun i hi => (eq i hi (fun j h1 h2 => by omega)).symm)
    refine m_leaf hE (by omega) m6 hb itI M' hp (fun j hj => ?_) (fun i hi pz => ?_) a4 a5 a3 (by omega)
    · obtain ⟨c, -, e⟩ := shp j hj; omega
    · by_cases z : ∃ j, j < k ∧ i = it j
      · obtain ⟨j, hj, e⟩ := z
        obtain ⟨c, hc, e2⟩ := shp j hj
        rw [e, e2, Nat.add_sub_cancel]
        unfold hoS at hc
        rw [Bool.and_eq_true, Bool.or_eq_true] at hc
        rcases hc.2 with hc2 | hc2
        · obtain ⟨j', hj', e3⟩ := xs c (of_decide_eq_true hc.1) hc2
          obtain ⟨c', -, e4⟩ := shp j' hj'
          rw [e3] at e4
          exact Or.inr (by omega)
        · exact Or.inl (by rw [of_decide_eq_true hc2])
      · exact absurd (h0 i hi (fun j hj e => z ⟨j, hj, e⟩)) pz
  | succ f ih =>
    intro k hk L hL h q pk w M hq eq hp shp h0 a4 a5 a3 wb
    have h8 := M.1.1
    have h16 := M.1.2.1
    have i24 : it k < 24 := by rcases itI k (by omega) with z | z <;> omega
    have ek : m - (f + 1) = k := by omega
    have wE : wy tv nB it (hoS nB x b) m (f + 1) pk = sE (fun c => if hoS nB x b c = true ∧ c ≠ it k then wy tv nB it (hoS nB x b) m f (upN pk (it k) (c + 1)) else 0) nB := by show sE (fun c => if hoS nB x b c = true ∧ c ≠ it (m - (f + 1)) then wy tv nB it (hoS nB x b) m f (upN pk (it (m - (f + 1))) (c + 1)) else 0) nB = _; rw [ek]
    have fE : fw tv nB it (hoS nB x b) m (f + 1) pk = fw tv nB it (hoS nB x b) m f (upN pk (it k) (findF (fun c => decide ((hoS nB x b c = true ∧ c ≠ it k) ∧ wy tv nB it (hoS nB x b) m f (upN pk (it k) (c + 1)) ≠ 0)) nB 0)) := by show fw tv nB it (hoS nB x b) m f (upN pk (it (m - (f + 1))) (findF (fun c => decide ((hoS nB x b c = true ∧ c ≠ it (m - (f + 1))) ∧ wy tv nB it (hoS nB x b) m f (upN pk (it (m - (f + 1))) (c + 1)) ≠ 0)) nB 0)) = _; rw [ek]
    rw [wE] at wb
    have hsE : ∀ c, c < nB → hoS nB x b c = (x.testBit c || decide (c = b)) := fun c hc => by unfold hoS; rw [decide_eq_true hc, Bool.true_and]
    have hsL : ∀ c, hoS nB x b c = true → c < nB := fun c hc => by unfold hoS at hc; rw [Bool.and_eq_true] at hc; exact of_decide_eq_true hc.1
    have key : ∀ g c, g + c = nB → ∀ h1, shF h h1 → (∃ q, MdV h1 nB nT tv q sn ck ∧ (∀ i, i < 24 → q i ≤ nB) ∧ ∀ i, i < 24 → (∀ j, k ≤ j → j < m → i ≠ it j) → q i = pk i) → h1.1 74 25 = nI (w + sE (fun c => if hoS nB x b c = true ∧ c ≠ it k then wy tv nB it (hoS nB x b) m f (upN pk (it k) (c + 1)) else 0) c) → ((w ≠ 0 ∨ sE (fun c => if hoS nB x b c = true ∧ c ≠ it k then wy tv nB it (hoS nB x b) m f (upN pk (it k) (c + 1)) else 0) c = 0) → h1.2.1 84 = h.2.1 84) → (w = 0 → sE (fun c => if hoS nB x b c = true ∧ c ≠ it k then wy tv nB it (hoS nB x b) m f (upN pk (it k) (c + 1)) else 0) c ≠ 0 → ∀ j, j < m → h1.2.1 84 j = bx (fw tv nB it (hoS nB x b) m (f + 1) pk (it j))) → at_M_shuts_127 E L h1 (muP tv nB nT sn ck it (hoS nB x b) m k (f + 1) pk w h) (nI b) (nI x) (nI k) (nI c) := by
      intro g
      induction g with
      | zero =>
        intro c hc h1 s1 q1 w1 u1 v1
        have ec : c = nB := by omega
        subst ec
        obtain ⟨q1, M1, -⟩ := id q1
        refine B_M_shuts_127 ⟨in75 (k := 0) (by omega), ?_⟩
        rw [e750 M1]
        refine brT (nI_le (Nat.le_refl _) (by omega)) ⟨s1, by assumption, by rw [wE]; exact w1, fun z => u1 (by rw [wE] at z; exact z), fun z y => v1 z (by rw [wE] at y; exact y)⟩
      | succ g ihg =>
        intro c hc h1 s1 q1' w1 u1 v1
        obtain ⟨q1, M1, hq1, eq1⟩ := id q1'
        have ss := sE_s (fun c => if hoS nB x b c = true ∧ c ≠ it k then wy tv nB it (hoS nB x b) m f (upN pk (it k) (c + 1)) else 0) c
        have sm := sE_mono (f := fun c => if hoS nB x b c = true ∧ c ≠ it k then wy tv nB it (hoS nB x b) m f (upN pk (it k) (c + 1)) else 0) (m := c + 1) (n := nB) (by omega)
        have g3 : h1.2.1 83 k = nI (it k) := by rw [(s1.1 83 (by omega)).2.1]; exact a3 k (by omega)
        have B : (if hoS nB x b c = true ∧ c ≠ it k then wy tv nB it (hoS nB x b) m f (upN pk (it k) (c + 1)) else 0) = 0 → at_M_shuts_127 E L h1 (muP tv nB nT sn ck it (hoS nB x b) m k (f + 1) pk w h) (nI b) (nI x) (nI k) (nI (c + 1)) := fun z => by
          have ss' : sE (fun c => if hoS nB x b c = true ∧ c ≠ it k then wy tv nB it (hoS nB x b) m f (upN pk (it k) (c + 1)) else 0) (c + 1) = sE (fun c => if hoS nB x b c = true ∧ c ≠ it k then wy tv nB it (hoS nB x b) m f (upN pk (it k) (c + 1)) else 0) c := by rw [ss, z, Nat.add_zero]
          exact ihg (c + 1) (by omega) h1 s1 q1' (by rw [ss']; exact w1) (by rw [ss']; exact u1) (by rw [ss']; exact v1)
        have A : hoS nB x b c = true → c ≠ it k → ConV E (L - 1) m_M_shuts 74 [.int (nI b), .int (nI x), .int (nI (k + 1))] (sA h1 75 (171 + it k) (nI (c + 1))) (fun h7 => at_M_shuts_127 E L h7 (muP tv nB nT sn ck it (hoS nB x b) m k (f + 1) pk w h) (nI b) (nI x) (nI k) (nI (c + 1))) := fun hs hn => by
          have tE : (if hoS nB x b c = true ∧ c ≠ it k then wy tv nB it (hoS nB x b) m f (upN pk (it k) (c + 1)) else 0) = wy tv nB it (hoS nB x b) m f (upN pk (it k) (c + 1)) := if_pos ⟨hs, hn⟩
          rw [tE] at ss
          generalize hF : (fun c => if hoS nB x b c = true ∧ c ≠ it k then wy tv nB it (hoS nB x b) m f (upN pk (it k) (c + 1)) else 0) = F at *
          refine (ih (k + 1) (by omega) (L - 1) (by omega) _ (upN q1 (it k) (c + 1)) (upN pk (it k) (c + 1)) (w + sE F c) (sP_MsV M1 (itI k (by omega)) (by omega)) (upN_le hq1 (by omega)) (fun i hi hj => ?_) (upN_le hp (by omega)) (fun j hj => ?_) (fun i hi hj => ?_) (by show h1.1 74 24 = _; rw [s1.2.1 24 (by omega) (by omega)]; exact a4) w1 (fun j hj => by rw [sA_o (by omega), (s1.1 83 (by omega)).2.1]; exact a3 j hj) (by omega)).mono (fun h3 z3 => ?_)
          · by_cases e : i = it k
            · rw [e, upN_y, upN_y]
            · rw [upN_n e, upN_n e]
              exact eq1 i hi (fun j h1 h2 e2 => by
                rcases Nat.lt_or_ge k j with y | y
                · exact hj j y h2 e2
                · exact e (by rw [e2, show j = k by omega]))
          · by_cases e : j = k
            · exact ⟨c, hs, by rw [e, upN_y]⟩
            · obtain ⟨c', y1, y2⟩ := shp j (by omega)
              exact ⟨c', y1, by rw [upN_n (fun e2 => e (inj j k (by omega) (by omega) e2)), y2]⟩
          · rw [upN_n (hj k (by omega))]; exact h0 i hi hj
          · obtain ⟨s3, ⟨q3, M3, hq3, eq3⟩, w3, u3, v3⟩ := z3
            have r84 : (sA h1 75 (171 + it k) (nI (c + 1))).2.1 84 = h1.2.1 84 := sA_o (by omega)
            rw [r84] at u3
            refine ihg (c + 1) (by omega) h3 ((s1.trans (shF.a75 i24)).trans s3) ⟨q3, M3, hq3, fun i hi hj => ?_⟩ (by rw [w3, ss, Nat.add_assoc]) (fun z => ?_) (fun z y => ?_)
            · rw [eq3 i hi (fun j h1 h2 => hj j (by omega) h2), upN_n (hj k (Nat.le_refl _) (by omega))]
            · rw [ss] at z
              rcases z with z | z
              · rw [u3 (Or.inl (by omega)), u1 (Or.inl z)]
              · rw [u3 (Or.inr (by omega)), u1 (Or.inr (by omega))]
            · by_cases d : sE F c = 0
              · have ff : findF (fun c => decide ((hoS nB x b c = true ∧ c ≠ it k) ∧ wy tv nB it (hoS nB x b) m f (upN pk (it k) (c + 1)) ≠ 0)) nB 0 = c + 1 := by
                  have yw : wy tv nB it (hoS nB x b) m f (upN pk (it k) (c + 1)) ≠ 0 := fun z => y (by rw [ss, d, z])
                  refine findF_first (fun c => decide ((hoS nB x b c = true ∧ c ≠ it k) ∧ wy tv nB it (hoS nB x b) m f (upN pk (it k) (c + 1)) ≠ 0)) nB 0 (Nat.zero_le _) (by omega) (decide_eq_true ⟨⟨hs, hn⟩, yw⟩) (fun j _ hj => decide_eq_false (fun ⟨y1, y2⟩ => y2 ?_))
                  have := sE_z0 d hj
                  rw [← hF] at this
                  have t2 : (if hoS nB x b j = true ∧ j ≠ it k then wy tv nB it (hoS nB x b) m f (upN pk (it k) (j + 1)) else 0) = 0 := this
                  rw [if_pos y1] at t2; exact t2
                rw [fE, ff]
                exact v3 (by omega) (by omega)
              · rw [u3 (Or.inl (by omega))]
                exact v1 z d
        refine B_M_shuts_127 ⟨in75 (k := 0) (by omega), ?_⟩
        rw [e750 M1, nIc (show k < 2147483648 by omega), g3, nIe (by omega) (by omega), nIe (by omega) (by omega), mk_test (mk_nat hx) (show c < 24 by omega), show (171 : Int32) = nI 171 from rfl, nI_add, nIc (by omega), nI_1, nI_1]
        refine brF (nI_ge (by omega) (by omega)) ⟨fun e => ?_, fun e => ?_⟩
        · have hs : hoS nB x b c = true := by rw [hsE c (by omega), decide_eq_true e, Bool.or_true]
          exact ⟨(in83 (by omega)).1, fun n => ⟨(in83 (by omega)).1, in75 (by omega), A hs n⟩, fun n => B (if_neg (fun z => z.2 n))⟩
        · by_cases t : x.testBit c = true
          · have hs : hoS nB x b c = true := by rw [hsE c (by omega), t, Bool.true_or]
            rw [if_pos t]
            exact brF (by decide) ⟨(in83 (by omega)).1, fun n => ⟨(in83 (by omega)).1, in75 (by omega), A hs n⟩, fun n => B (if_neg (fun z => z.2 n))⟩
          · have hs : ¬ hoS nB x b c = true := by rw [hsE c (by omega), decide_eq_false e, Bool.or_false]; exact t
            rw [if_neg t]
            exact brT rfl (B (if_neg (fun z => hs z.1)))
    refine B_M_shuts hE (by omega) ?_
    rw [a4]
    refine brF' (fun z => by have := (nIe (by omega) (by omega)).mp z; omega) (key nB 0 (by omega) h shF.rfl' ⟨q, M, hq, eq⟩ a5 (fun _ => rfl) (fun _ z => absurd rfl z))
end Shut10
