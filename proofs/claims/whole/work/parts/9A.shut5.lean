section Shut7
variable {E : EnvX} {nB nT : Nat} {tv : Nat → Nat → Nat} {it : Nat → Nat} {Hs : Nat → Bool} {m : Nat}
/-- how many sound ways the last f items have -/
def wy (tv : Nat → Nat → Nat) (nB : Nat) (it : Nat → Nat) (Hs : Nat → Bool) (m : Nat) : Nat → (Nat → Nat) → Nat
  | 0, pk => if (wrg pk tv nB 0).1 = 0 then 1 else 0
  | f + 1, pk => sE (fun b => if Hs b = true ∧ b ≠ it (m - (f + 1)) then wy tv nB it Hs m f (upN pk (it (m - (f + 1))) (b + 1)) else 0) nB
def fw (tv : Nat → Nat → Nat) (nB : Nat) (it : Nat → Nat) (Hs : Nat → Bool) (m : Nat) : Nat → (Nat → Nat) → (Nat → Nat)
  | 0, pk => pk
  | f + 1, pk => fw tv nB it Hs m f (upN pk (it (m - (f + 1))) (findF (fun b => decide ((Hs b = true ∧ b ≠ it (m - (f + 1))) ∧ wy tv nB it Hs m f (upN pk (it (m - (f + 1))) (b + 1)) ≠ 0)) nB 0))
theorem up_less {pk : Nat → Nat} {i v : Nat} (h0 : pk i = 0) : ∀ k, pk k ≠ 0 → upN pk i v k = pk k := fun k hk => upN_n (fun e => hk (by rw [e]; exact h0))
theorem wy_zero (h8 : nB ≤ 8) (inj : ∀ i j, i < m → j < m → it i = it j → i = j) : ∀ f pk, f ≤ m → (∀ i, i < 24 → pk i ≤ nB) → (∀ j, m - f ≤ j → j < m → pk (it j) = 0) → ¬ Snd pk tv nB → wy tv nB it Hs m f pk = 0
  | 0, pk, _, hp, _, hs => by
    show (if (wrg pk tv nB 0).1 = 0 then 1 else 0) = 0
    rw [if_neg (fun z => hs ((wrg_iff hp h8).mp z))]
  | f + 1, pk, hf, hp, h0, hs => by
    refine sE_zero (fun b hb => ?_)
    by_cases c : Hs b = true ∧ b ≠ it (m - (f + 1))
    · rw [if_pos c]
      refine wy_zero h8 inj f _ (by omega) (upN_le hp (by omega)) (fun j h1 h2 => ?_) (fun z => hs (Snd_less (up_less (h0 _ (Nat.le_refl _) (by omega))) z))
      rw [upN_n (fun e => by have := inj j (m - (f + 1)) h2 (by omega) e; omega)]
      exact h0 j (by omega) h2
    · rw [if_neg c]
def plP (tv : Nat → Nat → Nat) (nB : Nat) (it : Nat → Nat) (Hs : Nat → Bool) (m f : Nat) (pk : Nat → Nat) (w : Nat) (v2 : Int32) (h h' : Hp) : Prop := EqO (fun q => q = 53 ∨ (55 ≤ q ∧ q ≤ 58)) h h' ∧ (∀ k, k ≠ 8 → h'.1 53 k = h.1 53 k) ∧ ((v2 = 0 ∨ wy tv nB it Hs m f pk = 0) → ShV h' pk tv ∧ h'.1 53 8 = nI (w + wy tv nB it Hs m f pk)) ∧ (¬ v2 = 0 → wy tv nB it Hs m f pk ≠ 0 → ShV h' (fw tv nB it Hs m f pk) tv ∧ h'.1 53 8 = nI 1)
theorem ShV_eq {h h' : Hp} {pk : Nat → Nat} (V : ShV h pk tv) (e : ∀ q, 55 ≤ q → q ≤ 58 → h'.2.1 q = h.2.1 q) : ShV h' pk tv := by
  unfold ShV
  rw [e 55 (by omega) (by omega), e 56 (by omega) (by omega), e 57 (by omega) (by omega), e 58 (by omega) (by omega)]
  exact V
theorem sh_place (hE : EOk E) (h8 : nB ≤ 8) (m6 : m ≤ 6) (inj : ∀ i j, i < m → j < m → it i = it j → i = j) (i24 : ∀ j, j < m → it j < 24 ∧ (it j < 8 → it j < nB)) (hH : ∀ b, Hs b = true → b < nB) (v2 : Int32) : ∀ f k, f + k = m → ∀ (L : Nat), 6 + f ≤ L → ∀ (h : Hp) (pk : Nat → Nat) (w : Nat), StV h 1 nB nT tv → ShV h pk tv → Snd pk tv nB → (∀ i, i < 24 → pk i ≤ nB) → (∀ j, k ≤ j → j < m → pk (it j) = 0) → h.1 53 6 = nI m → (∀ b, b < 8 → (h.1 53 7 >>> (nI b &&& 31)) &&& 1 = if Hs b = true then 1 else 0) → (∀ j, j < m → h.2.1 54 j = nI (it j)) → h.1 53 8 = nI w → w + wy tv nB it Hs m f pk < 1000000 → (¬ v2 = 0 → w = 0) → ConV E L m_Shutting_placeFrom 53 [.int (nI k), .int v2] h (plP tv nB it Hs m f pk w v2 h) := by
  intro f
  induction f with
  | zero =>
    intro k hk L hL h pk w S V sd hp h0 a6 a7 a4 aw wb ww
    have w1 : wy tv nB it Hs m 0 pk = 1 := by show (if (wrg pk tv nB 0).1 = 0 then 1 else 0) = 1; rw [if_pos ((wrg_iff hp h8).mpr sd)]
    refine B_Shutting_placeFrom hE (by omega) ?_
    rw [a6, aw, nI_1]
    refine brT (nI_le (by omega) (by omega)) ⟨EqO.sI (F := fun q => q = 53 ∨ (55 ≤ q ∧ q ≤ 58)) (Or.inl rfl), fun k hk => by rw [sI_1, if_pos rfl, if_neg hk], fun _ => ⟨ShV_eq V (fun _ _ _ => rfl), by rw [sI_1, if_pos rfl, if_pos rfl, w1]⟩, fun z _ => ⟨ShV_eq V (fun _ _ _ => rfl), by rw [sI_1, if_pos rfl, if_pos rfl, ww z]⟩⟩
  | succ f ih =>
    intro k hk L hL h pk w S V sd hp h0 a6 a7 a4 aw wb ww
    obtain ⟨i1, i2⟩ := i24 k (by omega)
    have ek : m - (f + 1) = k := by omega
    have pk0 := h0 k (Nat.le_refl _) (by omega)
    have hp8 : ∀ i, i < 24 → pk i ≤ 8 := fun i hi => Nat.le_trans (hp i hi) h8
    have wE : wy tv nB it Hs m (f + 1) pk = sE (fun b => if Hs b = true ∧ b ≠ it k then wy tv nB it Hs m f (upN pk (it k) (b + 1)) else 0) nB := by show sE (fun b => if Hs b = true ∧ b ≠ it (m - (f + 1)) then wy tv nB it Hs m f (upN pk (it (m - (f + 1))) (b + 1)) else 0) nB = _; rw [ek]
    have fE : fw tv nB it Hs m (f + 1) pk = fw tv nB it Hs m f (upN pk (it k) (findF (fun b => decide ((Hs b = true ∧ b ≠ it k) ∧ wy tv nB it Hs m f (upN pk (it k) (b + 1)) ≠ 0)) nB 0)) := by show fw tv nB it Hs m f (upN pk (it (m - (f + 1))) (findF (fun b => decide ((Hs b = true ∧ b ≠ it (m - (f + 1))) ∧ wy tv nB it Hs m f (upN pk (it (m - (f + 1))) (b + 1)) ≠ 0)) nB 0)) = _; rw [ek]
    have s8 : sE (fun b => if Hs b = true ∧ b ≠ it k then wy tv nB it Hs m f (upN pk (it k) (b + 1)) else 0) 8 = wy tv nB it Hs m (f + 1) pk := by
      rw [wE, show (8 : Nat) = nB + (8 - nB) by omega, sE_split, sE_zero (n := 8 - nB) (fun i _ => if_neg (fun z => by have := hH _ z.1; omega)), Nat.add_zero]
    refine B_Shutting_placeFrom hE (by omega) ?_
    rw [a6, nIc (by omega), a4 k (by omega)]
    refine brF (nI_ge (by omega) (by omega)) (brT (nI_lt (b := 6) (by omega) (by omega)) ⟨in54 (by omega), ?_⟩)
    have main : ∀ g b, g + b = 8 → ∀ h1, EqO (fun q => q = 53 ∨ (55 ≤ q ∧ q ≤ 58)) h h1 → (∀ k, k ≠ 8 → h1.1 53 k = h.1 53 k) → ShV h1 pk tv → h1.1 53 8 = nI (w + sE (fun b => if Hs b = true ∧ b ≠ it k then wy tv nB it Hs m f (upN pk (it k) (b + 1)) else 0) b) → (¬ v2 = 0 → sE (fun b => if Hs b = true ∧ b ≠ it k then wy tv nB it Hs m f (upN pk (it k) (b + 1)) else 0) b = 0) → at_Shutting_placeFrom_35 E L h1 (plP tv nB it Hs m (f + 1) pk w v2 h) (nI k) v2 (nI (it k)) (nI b) := by
      intro g
      induction g with
      | zero =>
        intro b hb h1 e1 k1 V1 w1 z1
        rw [show b = 8 by omega, s8] at w1 z1
        rw [show b = 8 by omega]
        refine B_Shutting_placeFrom_35 (brT (nEnd 8) ⟨e1, k1, fun _ => ⟨V1, w1⟩, fun z q => absurd (z1 z) q⟩)
      | succ g ihg =>
        intro b hb h1 e1 k1 V1 w1 z1
        have S1 : StV h1 1 nB nT tv := S.keep e1 (by omega) (by omega)
        have sm := sE_mono (f := fun b => if Hs b = true ∧ b ≠ it k then wy tv nB it Hs m f (upN pk (it k) (b + 1)) else 0) (m := b + 1) (n := 8) (by omega)
        rw [s8] at sm
        have ss := sE_s (fun b => if Hs b = true ∧ b ≠ it k then wy tv nB it Hs m f (upN pk (it k) (b + 1)) else 0) b
        have skip : ∀ h2, (if Hs b = true ∧ b ≠ it k then wy tv nB it Hs m f (upN pk (it k) (b + 1)) else 0) = 0 → EqO (fun q => q = 53 ∨ (55 ≤ q ∧ q ≤ 58)) h h2 → (∀ k, k ≠ 8 → h2.1 53 k = h.1 53 k) → ShV h2 pk tv → h2.1 53 8 = h1.1 53 8 → at_Shutting_placeFrom_35 E L h2 (plP tv nB it Hs m (f + 1) pk w v2 h) (nI k) v2 (nI (it k)) (nI (b + 1)) := fun h2 t0 e2 k2 V2 q2 => by
          have ss' : sE (fun b => if Hs b = true ∧ b ≠ it k then wy tv nB it Hs m f (upN pk (it k) (b + 1)) else 0) (b + 1) = sE (fun b => if Hs b = true ∧ b ≠ it k then wy tv nB it Hs m f (upN pk (it k) (b + 1)) else 0) b := by rw [ss, t0, Nat.add_zero]
          exact ihg (b + 1) (by omega) h2 e2 k2 V2 (by rw [q2, w1, ss']) (fun z => by rw [ss']; exact z1 z)
        refine B_Shutting_placeFrom_35 (brF (nG 8 (by omega)) ?_)
        rw [k1 7 (by omega), a7 b (by omega), nI_1]
        by_cases hsb : Hs b = true
        · rw [if_pos hsb]
          have bn := hH b hsb
          refine brF (by decide) ((sh_mayHost hE (by omega) S1 V1 sd.1 i1 (show b < 8 by omega)).use ?_)
          have step := Snd_step sd hp h8 i1 i2 bn pk0
          by_cases ho : hosts pk tv (it k) b = true
          · rw [if_pos ho]
            have ho' := ho
            unfold hosts at ho'
            rw [Bool.and_eq_true] at ho'
            have nc : inCh pk b (it k + 1) = false := by simpa using ho'.2
            have hib : it k ≠ b := fun e => by unfold inCh at nc; rw [decide_eq_true (show it k + 1 = b + 1 by omega)] at nc; cases nc
            have hw : wi pk (it k + 1) 8 (b + 1) = false := by
              unfold inCh at nc
              rw [Bool.or_eq_false_iff] at nc
              exact nc.2
            have tE : (if Hs b = true ∧ b ≠ it k then wy tv nB it Hs m f (upN pk (it k) (b + 1)) else 0) = wy tv nB it Hs m f (upN pk (it k) (b + 1)) := if_pos ⟨hsb, fun e => hib e.symm⟩
            have a' := acy_put sd.1 hp8 (show b < 8 by omega) hib hw
            have hpu : ∀ i, i < 24 → upN pk (it k) (b + 1) i ≤ nB := upN_le hp (by omega)
            have h0u : ∀ j, k + 1 ≤ j → j < m → upN pk (it k) (b + 1) (it j) = 0 := fun j h1 h2 => by
              rw [upN_n (fun e => by have := inj j k h2 (by omega) e; omega)]; exact h0 j (by omega) h2
            refine brF (by decide) ((sh_up hE (by omega) S1 V1 sd.1 i1 (show b < 8 by omega) pk0 hib hw).mono (fun h2 z2 => ?_))
            obtain ⟨e2, V2⟩ := z2
            have S2 : StV h2 1 nB nT tv := S1.keep e2 (by omega) (by omega)
            obtain ⟨x, rx, hx⟩ := sh_sound hE (L := L - 1) (by omega) S2 V2 a' i1 (show b < 8 by omega)
            have f53 : h2.1 53 = h1.1 53 := (e2 53 (by omega)).1
            -- back again
            have back : ∀ h3, EqO (fun q => q = 53 ∨ (55 ≤ q ∧ q ≤ 58)) h h3 → (∀ k, k ≠ 8 → h3.1 53 k = h.1 53 k) → ShV h3 (upN pk (it k) (b + 1)) tv → (∀ h4, EqO (fun q => q = 53 ∨ (55 ≤ q ∧ q ≤ 58)) h h4 → (∀ k, k ≠ 8 → h4.1 53 k = h.1 53 k) → ShV h4 pk tv → h4.1 53 8 = h3.1 53 8 → at_Shutting_placeFrom_35 E L h4 (plP tv nB it Hs m (f + 1) pk w v2 h) (nI k) v2 (nI (it k)) (nI (b + 1))) → ConV E (L - 1) m_Shutting_move 53 [.int (nI (it k)), .int (nI b), .int (-1)] h3 (fun h6 => at_Shutting_placeFrom_35 E L h6 (plP tv nB it Hs m (f + 1) pk w v2 h) (nI k) v2 (nI (it k)) (nI (b + 1))) := fun h3 e3 k3 V3 H => by
              have S3 : StV h3 1 nB nT tv := S.keep e3 (by omega) (by omega)
              refine (sh_down hE (by omega) S3 hp8 sd.1 i1 (show b < 8 by omega) pk0 hib hw V3).mono (fun h4 z4 => ?_)
              obtain ⟨e4, V4⟩ := z4
              have g53 : h4.1 53 = h3.1 53 := (e4 53 (by omega)).1
              exact H h4 (e3.trans (e4.wk (fun q z => Or.inr z))) (fun k hk => by rw [g53]; exact k3 k hk) V4 (by rw [g53])
            have e12 : EqO (fun q => q = 53 ∨ (55 ≤ q ∧ q ≤ 58)) h h2 := e1.trans (e2.wk (fun q z => Or.inr z))
            have k12 : ∀ k, k ≠ 8 → h2.1 53 k = h.1 53 k := fun k hk => by rw [f53]; exact k1 k hk
            refine rx.use ?_
            rcases hx with ⟨rfl, gd⟩ | ⟨rfl, gd⟩
            · have sdu : Snd (upN pk (it k) (b + 1)) tv nB := step.mpr ⟨ho, gd⟩
              refine brF (by decide) ?_
              rw [nI_1]
              refine (ih (k + 1) (by omega) (L - 1) (by omega) h2 _ (w + sE (fun b => if Hs b = true ∧ b ≠ it k then wy tv nB it Hs m f (upN pk (it k) (b + 1)) else 0) b) S2 V2 sdu hpu h0u (by rw [k12 6 (by omega)]; exact a6) (fun b hb => by rw [k12 7 (by omega)]; exact a7 b hb) (fun j hj => by rw [(e12 54 (by omega)).2.1]; exact a4 j hj) (by rw [f53]; exact w1) (by rw [ss, tE] at sm; omega) (fun z => by rw [ww z, z1 z])).mono (fun h3 z3 => ?_)
              obtain ⟨e3, k3, p3, q3⟩ := z3
              have e13 := e12.trans e3
              have k13 : ∀ k, k ≠ 8 → h3.1 53 k = h.1 53 k := fun k hk => by rw [k3 k hk]; exact k12 k hk
              have onw : (v2 = 0 ∨ wy tv nB it Hs m f (upN pk (it k) (b + 1)) = 0) → ConV E (L - 1) m_Shutting_move 53 [.int (nI (it k)), .int (nI b), .int (-1)] h3 (fun h6 => at_Shutting_placeFrom_35 E L h6 (plP tv nB it Hs m (f + 1) pk w v2 h) (nI k) v2 (nI (it k)) (nI (b + 1))) := fun c => by
                obtain ⟨V3, w3⟩ := p3 c
                refine back h3 e13 k13 V3 (fun h4 e4 k4 V4 q4 => ihg (b + 1) (by omega) h4 e4 k4 V4 ?_ (fun z => ?_))
                · rw [q4, w3, ss, tE]; congr 1; omega
                · rcases c with c | c
                  · exact absurd c z
                  · rw [ss, tE, c, z1 z]
              refine ⟨fun z => onw (Or.inl z), fun z => ?_⟩
              by_cases c : wy tv nB it Hs m f (upN pk (it k) (b + 1)) = 0
              · obtain ⟨-, w3⟩ := p3 (Or.inr c)
                have e8 : h3.1 53 8 = 0 := by rw [w3, c, z1 z, ww z]; rfl
                rw [e8]
                exact brT (by decide) (onw (Or.inr c))
              · obtain ⟨V3, w3⟩ := q3 z c
                rw [w3]
                have ff : findF (fun b => decide ((Hs b = true ∧ b ≠ it k) ∧ wy tv nB it Hs m f (upN pk (it k) (b + 1)) ≠ 0)) nB 0 = b + 1 := findF_first (fun b => decide ((Hs b = true ∧ b ≠ it k) ∧ wy tv nB it Hs m f (upN pk (it k) (b + 1)) ≠ 0)) nB 0 (Nat.zero_le _) (by omega) (decide_eq_true ⟨⟨hsb, fun e => hib e.symm⟩, c⟩) (fun j _ hj => decide_eq_false (fun ⟨y1, y2⟩ => y2 (by
                  have := sE_z0 (z1 z) hj
                  rw [if_pos y1] at this; exact this)))
                refine brF (by decide) ⟨e13, k13, fun y => ?_, fun _ _ => ⟨by rw [fE, ff]; exact V3, w3⟩⟩
                rcases y with y | y
                · exact absurd y z
                · rw [ss, tE] at sm; omega
            · have nsd : ¬ Snd (upN pk (it k) (b + 1)) tv nB := fun z => gd (step.mp z).2
              have wz := wy_zero (Hs := Hs) h8 inj f _ (by omega) hpu (fun j h1 h2 => h0u j (by omega) h2) nsd
              have bk := back h2 e12 k12 V2 (fun h4 e4 k4 V4 q4 => skip h4 (by rw [tE, wz]) e4 k4 V4 (by rw [q4, f53]))
              refine brT rfl ⟨fun _ => bk, fun z => brT ?_ bk⟩
              rw [f53, w1, z1 z, ww z]; decide
          · rw [if_neg ho]
            have nsd : ¬ Snd (upN pk (it k) (b + 1)) tv nB := fun z => ho (step.mp z).1
            refine brT rfl (skip h1 ?_ e1 k1 V1 rfl)
            by_cases c : Hs b = true ∧ b ≠ it k
            · rw [if_pos c]
              exact wy_zero h8 inj f _ (by omega) (upN_le hp (by omega)) (fun j h1 h2 => by
                rw [upN_n (fun e => by have := inj j k h2 (by omega) e; omega)]; exact h0 j (by omega) h2) nsd
            · rw [if_neg c]
        · rw [if_neg hsb]
          exact brT rfl (skip h1 (if_neg (fun z => hsb z.1)) e1 k1 V1 rfl)
    exact main 8 0 (by omega) h EqO.rfl' (fun _ _ => rfl) V (by rw [aw]; rfl) (fun _ => rfl)
end Shut7
