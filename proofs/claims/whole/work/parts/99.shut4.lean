section Shut5
variable {E : EnvX} {L : Nat} {h : Hp} {nB nT : Nat} {tv : Nat → Nat → Nat} {pk : Nat → Nat}
/-- a packing in which nothing is wrong -/
def Snd (pk : Nat → Nat) (tv : Nat → Nat → Nat) (nB : Nat) : Prop := acy pk ∧ (∀ i, i < 24 → pk i ≠ 0 → tv i 1 ≤ tv (pk i - 1) 4) ∧ (∀ b, b < nB → lod pk tv (b + 1) ≤ tv b 6) ∧ ∀ b, b < nB → fil pk tv (b + 1) ≤ rom pk tv b (hlv pk (b + 1))
theorem find_z {p : Nat → Bool} {n : Nat} : findF p n 0 = 0 ↔ ∀ i, i < n → p i = false := by
  constructor
  · intro h i hi
    rcases findF_min p n 0 with ⟨-, a⟩ | ⟨j, -, -, -, a, -⟩
    · exact a i (Nat.zero_le _) (by omega)
    · omega
  · intro h
    exact findF_none p n 0 (fun i _ hi => h i (by omega))
theorem blm_z {z : Nat × Nat} {kd c : Nat} (hk : kd ≠ 0) : (blm z kd c).1 = 0 ↔ z.1 = 0 ∧ c = 0 := by
  unfold blm
  by_cases a : z.1 = 0
  · rw [if_neg (fun w => w a)]
    by_cases b : c = 0
    · rw [if_pos b]; exact ⟨fun w => ⟨w, b⟩, fun w => w.1⟩
    · rw [if_neg b]; exact ⟨fun w => absurd w hk, fun w => absurd w.2 b⟩
  · rw [if_pos a]; exact ⟨fun w => absurd w a, fun w => absurd w.1 a⟩
theorem wrg_iff (hp : ∀ i, i < 24 → pk i ≤ nB) (h8 : nB ≤ 8) : (wrg pk tv nB 0).1 = 0 ↔ Snd pk tv nB := by
  unfold wrg
  rw [blm_z (by decide), blm_z (by decide), blm_z (by decide), blm_z (by decide), blm_z (by decide)]
  unfold fIn fWd fHv fFl
  rw [find_z, find_z, find_z, find_z]
  unfold Snd
  constructor
  · rintro ⟨⟨⟨⟨⟨-, -⟩, a⟩, b⟩, c⟩, d⟩
    refine ⟨acy_of hp h8 a, fun i hi z => ?_, fun i hi => ?_, fun i hi => ?_⟩
    · have := b i hi
      rw [decide_eq_false_iff_not] at this
      exact Classical.byContradiction fun w => this ⟨z, by omega⟩
    · have := c i hi
      rw [decide_eq_false_iff_not] at this
      omega
    · have := d i hi
      rw [decide_eq_false_iff_not] at this
      omega
  · rintro ⟨a, b, c, d⟩
    refine ⟨⟨⟨⟨⟨rfl, rfl⟩, fun i hi => wi_self a (by omega)⟩, fun i hi => ?_⟩, fun i hi => ?_⟩, fun i hi => ?_⟩
    · rw [decide_eq_false_iff_not]
      rintro ⟨z, w⟩
      have := b i hi z
      omega
    · rw [decide_eq_false_iff_not]
      have := c i hi
      omega
    · rw [decide_eq_false_iff_not]
      have := d i hi
      omega
/-- what is wrong stays wrong -/
theorem wi_less {pk' : Nat → Nat} (hx : ∀ i, pk i ≠ 0 → pk' i = pk i) {d : Nat} (hd : d ≠ 0) : ∀ n c, wi pk d n c = true → wi pk' d n c = true
  | 0, c, h => by cases h
  | n + 1, c, h => by
    cases c with
    | zero => simp [wi] at h
    | succ j =>
      simp only [wi, nx_S, if_neg (Nat.succ_ne_zero j)] at h ⊢
      by_cases z : pk j = 0
      · rw [z] at h
        rw [if_neg (fun w => hd w.symm), wi_0 hd] at h
        cases h
      · rw [hx j z]
        by_cases q : pk j = d
        · rw [if_pos q]
        · rw [if_neg q] at h ⊢
          exact wi_less hx hd n _ h
theorem Snd_less {pk' : Nat → Nat} (hx : ∀ i, pk i ≠ 0 → pk' i = pk i) (h : Snd pk' tv nB) : Snd pk tv nB := by
  obtain ⟨a, b, c, d⟩ := h
  have e : pk = pkG pk' (fun i => decide (pk i = 0)) := funext (fun i => by
    unfold pkG
    by_cases z : pk i = 0
    · rw [if_pos (decide_eq_true z), z]
    · rw [if_neg (show ¬ decide (pk i = 0) = true by rw [decide_eq_false z]; decide), hx i z])
  refine ⟨by rw [e]; exact acy_G a, fun i hi z => ?_, fun q hq => ?_, fun q hq => ?_⟩
  · have := b i hi (by rw [hx i z]; exact z)
    rw [hx i z] at this; exact this
  · refine Nat.le_trans (sE_mon (fun j _ => ?_)) (c q hq)
    by_cases w : wi pk (q + 1) 8 (j + 1) = true
    · rw [if_pos w, if_pos (wi_less hx (Nat.succ_ne_zero q) 8 _ w)]; exact Nat.le_refl _
    · rw [if_neg w]; exact Nat.zero_le _
  · have f1 : fil pk tv (q + 1) ≤ fil pk' tv (q + 1) := sE_mon (fun j _ => by
      by_cases w : pk j = q + 1
      · rw [if_pos w, if_pos (by rw [hx j (by omega)]; exact w)]; exact Nat.le_refl _
      · rw [if_neg w]; exact Nat.zero_le _)
    have f2 : hlv pk (q + 1) ≤ hlv pk' (q + 1) := by
      unfold hlv
      rw [nx_S, nx_S]
      refine Nat.add_le_add ?_ (sE_mon (fun j _ => ?_))
      · by_cases w : pk q = 0
        · rw [if_pos w]; exact Nat.zero_le _
        · rw [if_neg w, if_neg (by rw [hx q w]; exact w)]; exact Nat.le_refl _
      · by_cases w : pk j = q + 1
        · rw [if_pos w, if_pos (by rw [hx j (by omega)]; exact w)]; exact Nat.le_refl _
        · rw [if_neg w]; exact Nat.zero_le _
    have f3 : rom pk' tv q (hlv pk' (q + 1)) ≤ rom pk tv q (hlv pk (q + 1)) := by
      unfold rom
      exact Nat.div_le_div_left (Nat.pow_le_pow_right (by decide) f2) (Nat.two_pow_pos _)
    have := d q hq
    omega
end Shut5
section Shut6
variable {E : EnvX} {L : Nat} {h : Hp} {nB nT : Nat} {tv : Nat → Nat → Nat} {pk : Nat → Nat}
theorem least {P : Nat → Prop} : ∀ n, P n → ∃ t, P t ∧ ∀ m, m < t → ¬ P m := by
  intro n
  induction n using Nat.strongRecOn with
  | ind n ih =>
    intro hn
    by_cases ex : ∃ m, m < n ∧ P m
    · obtain ⟨m, hm, pm⟩ := ex
      exact ih m hm pm
    · exact ⟨n, hn, fun m hm pm => ex ⟨m, hm, pm⟩⟩
/-- sound after the box, along what it is in -/
def good (pk : Nat → Nat) (tv : Nat → Nat → Nat) (i b : Nat) : Prop := (∀ c, c < 8 → inCh pk b (c + 1) = true → lod pk tv (c + 1) ≤ tv c 6) ∧ fil pk tv (b + 1) ≤ rom pk tv b (hlv pk (b + 1)) ∧ (i < 8 → fil pk tv (i + 1) ≤ rom pk tv i (hlv pk (i + 1)))
theorem Snd_step (hs : Snd pk tv nB) (hp : ∀ i, i < 24 → pk i ≤ nB) (h8 : nB ≤ 8) {i b : Nat} (hi : i < 24) (ib : i < 8 → i < nB) (hb : b < nB) (h0 : pk i = 0) : Snd (upN pk i (b + 1)) tv nB ↔ (hosts pk tv i b = true ∧ good (upN pk i (b + 1)) tv i b) := by
  have hp8 : ∀ i, i < 24 → pk i ≤ 8 := fun i hi => Nat.le_trans (hp i hi) h8
  obtain ⟨s1, s2, s3, s4⟩ := hs
  constructor
  · rintro ⟨a, l, c, d⟩
    refine ⟨?_, fun c' hc' hx => ?_, d b hb, fun i8 => d i (ib i8)⟩
    · unfold hosts
      have lid := l i hi (by rw [upN_y]; exact Nat.succ_ne_zero b)
      rw [upN_y, Nat.add_sub_cancel] at lid
      rw [decide_eq_true lid, Bool.true_and]
      cases x : inCh pk b (i + 1)
      · rfl
      · exfalso
        have ex : ∃ t, itn pk t (b + 1) = i + 1 := by
          unfold inCh at x
          rw [Bool.or_eq_true, decide_eq_true_eq] at x
          rcases x with x | x
          · exact ⟨0, x.symm⟩
          · obtain ⟨m, hm⟩ := wi_t x
            exact ⟨m + 1, hm⟩
        obtain ⟨t0, e0⟩ := ex
        obtain ⟨t, e, mn⟩ := least (P := fun t => itn pk t (b + 1) = i + 1) t0 e0
        have off := itn_off (pk := pk) (i := i) (v := b + 1) (c := b + 1) (n := t) mn
        have cyc : itn (upN pk i (b + 1)) (t + 1) (i + 1) = i + 1 := by rw [itn_s, nx_S, upN_y, off, e]
        exact no_cyc (Nat.succ_ne_zero i) cyc 9 (a (i + 1) (by omega))
    · refine c c' (Classical.byContradiction fun z => ?_)
      have up : ∀ k, k < 24 → upN pk i (b + 1) k ≤ nB := upN_le hp (by omega)
      unfold inCh at hx
      rw [Bool.or_eq_true, decide_eq_true_eq] at hx
      rcases hx with hx | hx
      · omega
      · obtain ⟨m, hm⟩ := wi_t hx
        rw [itn_end] at hm
        have l24 := itn_l24 (pk := upN pk i (b + 1)) (fun k hk => Nat.le_trans (up k hk) h8) (show b + 1 ≤ 24 by omega) m
        unfold nx at hm
        split at hm
        · omega
        · have := up (itn (upN pk i (b + 1)) m (b + 1) - 1) (by omega)
          omega
  · rintro ⟨ho, g1, g2, g3⟩
    unfold hosts at ho
    rw [Bool.and_eq_true, decide_eq_true_eq] at ho
    have nc : inCh pk b (i + 1) = false := by simpa using ho.2
    have hib : i ≠ b := fun e => by unfold inCh at nc; rw [decide_eq_true (show i + 1 = b + 1 by omega)] at nc; cases nc
    have hw : wi pk (i + 1) 8 (b + 1) = false := by
      unfold inCh at nc
      rw [Bool.or_eq_false_iff] at nc
      exact nc.2
    have a' := acy_put s1 hp8 (show b < 8 by omega) hib hw
    refine ⟨a', fun k hk z => ?_, fun q hq => ?_, fun q hq => ?_⟩
    · by_cases e : k = i
      · rw [e, upN_y, Nat.add_sub_cancel]; exact ho.1
      · rw [upN_n e] at z ⊢; exact s2 k hk z
    · cases x : inCh (upN pk i (b + 1)) b (q + 1)
      · rw [lod_up s1 hp8 hi (by omega) h0 hib hw (Nat.succ_ne_zero q) (by omega)]
        have : inCh pk b (q + 1) = false := by
          cases y : inCh pk b (q + 1)
          · rfl
          · exfalso
            unfold inCh at x y
            rw [Bool.or_eq_false_iff, decide_eq_false_iff_not] at x
            rw [Bool.or_eq_true, decide_eq_true_eq] at y
            rcases y with y | y
            · exact x.1 y
            · have := wi_less (pk := pk) (pk' := upN pk i (b + 1)) (fun k hk => upN_n (fun e => hk (by rw [e]; exact h0))) (Nat.succ_ne_zero q) 8 _ y
              rw [x.2] at this; cases this
        rw [this, if_neg (by decide), Nat.add_zero]
        exact s3 q hq
      · exact g1 q (by omega) x
    · by_cases e1 : q = b
      · rw [e1]; exact g2
      · by_cases e2 : q = i
        · rw [e2]; exact g3 (by omega)
        · rw [fil_up hi h0 (Nat.succ_ne_zero q), if_neg (by omega), hlv_up hi h0 hib, if_neg e2, if_neg (fun z => e1 z.1), Nat.add_zero, Nat.add_zero, Nat.add_zero]
          exact s4 q hq
theorem sh_sound (hE : EOk E) (hL : 4 ≤ L) (S : StV h 1 nB nT tv) (V : ShV h pk tv) (hA : acy pk) {i b : Nat} (hi : i < 24) (hb : b < 8) : ∃ x : Int32, RdI E L m_Shutting_isSound 53 [.int (nI i), .int (nI b)] h x ∧ ((x = 1 ∧ good pk tv i b) ∨ (x = 0 ∧ ¬ good pk tv i b)) := by
  have hp : ∀ i, i < 24 → pk i ≤ 8 := fun i hi => (V.1 i hi).2
  have tl : ∀ i k, i < 24 → k < 7 → tv i k ≤ 9999 := fun i k hi hk => (S.2.2.2.2.2 i k hi hk).2
  have hl9 : ∀ c, hlv pk (c + 1) < 31 := fun c => by
    have : sE (fun k => if pk k = c + 1 then 1 else 0) 8 ≤ 8 * 1 := sE_le (fun k _ => by split <;> omega)
    unfold hlv; split <;> omega
  have ll : ∀ c, lod pk tv c ≤ 239976 := fun c => by
    have : lod pk tv c ≤ 24 * 9999 := sE_le (fun k hk => by
      split
      · exact tl k 2 hk (by omega)
      · exact Nat.zero_le _)
    omega
  have le8 : ∀ s, itn pk s (b + 1) ≤ 8 := fun s => by
    cases s with
    | zero => show b + 1 ≤ 8; omega
    | succ s => rw [itn_end]; exact nx_le8 hp (itn_l24 hp (by omega) s)
  have key : ∀ x : Int32, ((x = 1 ∧ good pk tv i b) ∨ (x = 0 ∧ ¬ good pk tv i b)) → RdI E L m_Shutting_isSound 53 [.int (nI i), .int (nI b)] h x := by
    intro x hx
    refine B_Shutting_isSound hE (by omega) ?_
    have tail : (∀ c, c < 8 → inCh pk b (c + 1) = true → lod pk tv (c + 1) ≤ tv c 6) → ConI E (L - 1) m_Shutting_fitsNow 53 [.int (nI b)] h (fun y2 h1 => ((y2 = 0 → (fun y h' => y = x ∧ h' = h) 0 h1) ∧ (¬ y2 = 0 → ((8 ≤ nI i → (fun y h' => y = x ∧ h' = h) 1 h1) ∧ (¬ 8 ≤ nI i → ConI E (L - 1) m_Shutting_fitsNow 53 [.int (nI i)] h1 (fun y4 h3 => ((y4 = 0 → (fun y h' => y = x ∧ h' = h) 0 h3) ∧ (¬ y4 = 0 → (fun y h' => y = x ∧ h' = h) 1 h3)))))))) := fun g1 => by
      refine (fits_now hE (by omega) S V hb (hl9 b)).use ?_
      by_cases q : fil pk tv (b + 1) ≤ rom pk tv b (hlv pk (b + 1))
      · rw [if_pos q]
        refine brF (by decide) ?_
        rw [show (8 : Int32) = nI 8 from rfl, nIl (by omega) (by omega)]
        refine ⟨fun i8 => ⟨?_, rfl⟩, fun i8 => (fits_now hE (by omega) S V (show i < 8 by omega) (hl9 i)).use ?_⟩
        · rcases hx with ⟨e, -⟩ | ⟨-, w⟩
          · exact e.symm
          · exact absurd ⟨g1, q, fun z => by omega⟩ w
        · by_cases q2 : fil pk tv (i + 1) ≤ rom pk tv i (hlv pk (i + 1))
          · rw [if_pos q2]
            refine brF (by decide) ⟨?_, rfl⟩
            rcases hx with ⟨e, -⟩ | ⟨-, w⟩
            · exact e.symm
            · exact absurd ⟨g1, q, fun _ => q2⟩ w
          · rw [if_neg q2]
            refine brT rfl ⟨?_, rfl⟩
            rcases hx with ⟨-, w⟩ | ⟨e, -⟩
            · exact absurd (w.2.2 (by omega)) q2
            · exact e.symm
      · rw [if_neg q]
        refine brT rfl ⟨?_, rfl⟩
        rcases hx with ⟨-, w⟩ | ⟨e, -⟩
        · exact absurd w.2.1 q
        · exact e.symm
    have main : ∀ f t, f + t = 8 → (∀ c, c < 8 → vis pk b t c = true → lod pk tv (c + 1) ≤ tv c 6) → at_Shutting_isSound_5 E L h (fun y h' => y = x ∧ h' = h) (nI i) (nI b) (bx (itn pk t (b + 1))) (nI t) := by
      intro f
      induction f with
      | zero =>
        intro t ht a
        rw [show t = 8 by omega] at a ⊢
        exact B_Shutting_isSound_5 (brT (nEnd 8) (tail (fun c hc z => a c hc (by rw [vis_ch hA hp hb (Or.inl rfl)]; exact z))))
      | succ f ih =>
        intro t ht a
        have l8 := le8 t
        refine B_Shutting_isSound_5 (brF (nG 8 (by omega)) ?_)
        by_cases z : itn pk t (b + 1) = 0
        · rw [z]
          exact brT bxneg0 (tail (fun c hc w => a c hc (by rw [vis_ch hA hp hb (Or.inr z)]; exact w)))
        · obtain ⟨c, ec⟩ : ∃ c, itn pk t (b + 1) = c + 1 := ⟨itn pk t (b + 1) - 1, by omega⟩
          have c8 : c < 8 := by omega
          have t6 := tl c 6 (by omega) (by omega)
          have lc := ll (c + 1)
          rw [ec, bx_S]
          refine brF (nIneg (by omega)) (brF (nG 8 c8) ⟨(in56 c8).2.1, (store_told hE (by omega) S (k := 6) (by omega) (by omega)).use ?_⟩)
          rw [nIc (by omega), (V.2 c c8).2.1, nIl (by omega) (by omega)]
          refine ⟨fun q => ⟨in55 (by omega), ?_⟩, fun q => ⟨?_, rfl⟩⟩
          · rw [(V.1 c (by omega)).1, nI_1]
            have ih1 := ih (t + 1) (by omega) (fun d hd vd => by
              have vs : vis pk b (t + 1) d = (vis pk b t d || decide (itn pk t (b + 1) = d + 1)) := rfl
              rw [vs, Bool.or_eq_true, decide_eq_true_eq, ec] at vd
              rcases vd with vd | vd
              · exact a d hd vd
              · rw [show d = c by omega]; exact q)
            rw [itn_end, ec, nx_S] at ih1
            exact ih1
          · rcases hx with ⟨-, w⟩ | ⟨e, -⟩
            · refine absurd (w.1 c c8 ?_) q
              rw [← vis_ch hA hp hb (Or.inl (rfl : 8 = 8))]
              exact (vis_iff 8).mpr ⟨t, by omega, ec⟩
            · exact e.symm
    have := main 8 0 (by omega) (fun c hc z => by cases z)
    rw [show itn pk 0 (b + 1) = b + 1 from rfl, bx_S] at this
    exact this
  by_cases g : good pk tv i b
  · exact ⟨1, key 1 (Or.inl ⟨rfl, g⟩), Or.inl ⟨rfl, g⟩⟩
  · exact ⟨0, key 0 (Or.inr ⟨rfl, g⟩), Or.inr ⟨rfl, g⟩⟩
end Shut6
