/-! ===== lost ===== -/
def lstP (pk : Nat → Nat) (i : Nat) : Bool := decide (8 < dpt pk 9 (i + 1))
theorem dpt_le (pk : Nat → Nat) : ∀ n c, dpt pk n c ≤ n
  | 0, _ => Nat.le_refl _
  | n + 1, c => by simp only [dpt]; have := dpt_le pk n (nx pk c); split <;> omega
theorem dpt_full (pk : Nat → Nat) : ∀ n c, dpt pk n c = n ↔ (n = 0 ∨ itn pk n c ≠ 0)
  | 0, _ => ⟨fun _ => Or.inl rfl, fun _ => rfl⟩
  | n + 1, c => by
    simp only [dpt]
    rw [itn_s]
    by_cases q : nx pk c = 0
    · rw [if_pos q, q, itn_0]; omega
    · rw [if_neg q]
      have ih := dpt_full pk n (nx pk c)
      constructor
      · intro z
        rcases ih.mp (by omega) with w | w
        · subst w; exact Or.inr q
        · exact Or.inr w
      · intro z
        have := ih.mpr (z.elim (fun w => by omega) Or.inr)
        omega
theorem lstP_iff (pk : Nat → Nat) (i : Nat) : lstP pk i = true ↔ itn pk 9 (i + 1) ≠ 0 := by
  unfold lstP
  rw [decide_eq_true_eq]
  have h1 := dpt_le pk 9 (i + 1)
  have h2 := dpt_full pk 9 (i + 1)
  constructor
  · intro z; exact (h2.mp (by omega)).resolve_left (by omega)
  · intro z; have := h2.mpr (Or.inr z); omega
theorem lost_ring {pk : Nat → Nat} {b : Nat} (h : wi pk (b + 1) 8 (b + 1) = true) : itn pk 9 (b + 1) ≠ 0 := by
  have : ∃ m, itn pk (m + 1) (b + 1) = b + 1 := Classical.byContradiction fun z => by
    have key : ∀ n c, wi pk (b + 1) n c = true → ∃ m, itn pk (m + 1) c = b + 1 := by
      intro n
      induction n with
      | zero => intro c hc; simp [wi] at hc
      | succ n ih =>
        intro c hc
        simp only [wi] at hc
        split at hc
        · cases hc
        · split at hc
          · rename_i q; exact ⟨0, q⟩
          · obtain ⟨m, hm⟩ := ih _ hc; exact ⟨m + 1, hm⟩
    exact z (key 8 (b + 1) h)
  obtain ⟨m, hm⟩ := this
  exact no_cyc (Nat.succ_ne_zero b) hm 9
theorem lost_all {pk : Nat → Nat} {nB : Nat} (hp : ∀ i, i < 24 → pk i ≤ nB) (h8 : nB ≤ 8) {F : Nat → Bool} (hR : ∀ b, b < nB → wi pk (b + 1) 8 (b + 1) = true → F b = true) (hC : ∀ i, i < 24 → pk i ≠ 0 → F (pk i - 1) = true → F i = true) {i : Nat} (hi : i < 24) (hl : itn pk 9 (i + 1) ≠ 0) : F i = true := by
  have hp8 : ∀ i, i < 24 → pk i ≤ 8 := fun i hi => Nat.le_trans (hp i hi) h8
  have hc : i + 1 ≤ 24 := by omega
  have hne : ∀ k, k ≤ 9 → itn pk k (i + 1) ≠ 0 := fun k hk e => hl (itn_z e hk)
  have hle : ∀ k, itn pk (k + 1) (i + 1) ≤ nB := fun k => by
    rw [itn_end]
    unfold nx
    split
    · omega
    · exact hp _ (by have := itn_l24 hp8 hc k; omega)
  obtain ⟨a, b, h1, h2, h3⟩ := pig 8 (fun k => itn pk (k + 1) (i + 1) - 1) (fun k hk => by
    have a1 := hne (k + 1) (by omega)
    have a2 := hle k
    show itn pk (k + 1) (i + 1) - 1 < 8
    omega)
  have a1 := hne (a + 1) (by omega)
  have a2 := hne (b + 1) (by omega)
  have a3 := hle a
  have e : itn pk (b + 1) (i + 1) = itn pk (a + 1) (i + 1) := by
    have : itn pk (a + 1) (i + 1) - 1 = itn pk (b + 1) (i + 1) - 1 := h3
    omega
  have hcy : itn pk ((b - a - 1) + 1) (itn pk (a + 1) (i + 1)) = itn pk (a + 1) (i + 1) := by
    rw [← itn_add, show a + 1 + (b - a - 1 + 1) = b + 1 by omega]; exact e
  have top : F (itn pk (a + 1) (i + 1) - 1) = true := by
    refine hR _ (by omega) ?_
    rw [show itn pk (a + 1) (i + 1) - 1 + 1 = itn pk (a + 1) (i + 1) by omega]
    refine Classical.byContradiction fun z => ?_
    exact wi_f a1 (by simpa using z) (b - a - 1) (by omega) hcy
  have down : ∀ t, t ≤ a + 1 → F (itn pk t (i + 1) - 1) = true → F i = true := by
    intro t
    induction t with
    | zero => intro _ z; exact z
    | succ t ih =>
      intro ht z
      have b1 := hne t (by omega)
      have b2 := hne (t + 1) (by omega)
      have b3 := itn_l24 hp8 hc t
      refine ih (by omega) (hC _ (by omega) ?_ ?_)
      · rw [itn_end] at b2
        unfold nx at b2
        rw [if_neg b1] at b2; exact b2
      · rw [itn_end] at z
        unfold nx at z
        rw [if_neg b1] at z; exact z
  exact down (a + 1) (Nat.le_refl _) top
section Lost
variable {E : EnvX} {L : Nat} {h : Hp} {K : Nat} {nB nT : Nat} {tv : Nat → Nat → Nat} {pk lv sn : Nat → Nat} {ck : Nat}
theorem pk_lostBits (hE : EOk E) (hL : 3 ≤ L) (Y : LyV h 36 pk lv) : ConI E L m_Packing_lostBits 35 [] h (fun y h' => h' = h ∧ Mk y (lstP pk)) := by
  refine B_Packing_lostBits hE (by omega) ?_
  have main : ∀ m k, m + k = 24 → ∀ v, Mk v (fun i => decide (i < k) && lstP pk i) → at_Packing_lostBits_4 E L h (fun y h' => h' = h ∧ Mk y (lstP pk)) v (nI k) := by
    intro m
    induction m with
    | zero =>
      intro k hk v hv
      rw [show k = 24 by omega] at hv ⊢
      exact B_Packing_lostBits_4 (brT (nEnd 24) ⟨rfl, mk_cong hv (fun i hi => by rw [decide_eq_true hi, Bool.true_and])⟩)
    | succ m ih =>
      intro k hk v hv
      have hk2 : k < 24 := by omega
      have a1 := ly_around hE (L := L - 1) (by omega) Y (c := k + 1) (by omega)
      rw [bx_S] at a1
      have dl := dpt_le pk 9 (k + 1)
      refine B_Packing_lostBits_4 (brF (nG 24 hk2) (a1.use ?_))
      rw [show (8 : Int32) = nI 8 from rfl, nIl (by omega) (by omega), nI_1]
      refine ⟨fun c => ih (k + 1) (by omega) v (mk_cong hv (fun i hi => ?_)), fun c => ih (k + 1) (by omega) _ (mk_cong (mk_or hv hk2) (fun i hi => ?_))⟩
      · by_cases d : i = k
        · subst d
          have : lstP pk i = false := decide_eq_false (by omega)
          rw [this, Bool.and_false, Bool.and_false]
        · by_cases d2 : i < k
          · rw [decide_eq_true d2, decide_eq_true (show i < k + 1 by omega)]
          · rw [decide_eq_false d2, decide_eq_false (show ¬ i < k + 1 by omega)]
      · by_cases d : i = k
        · subst d
          have : lstP pk i = true := decide_eq_true (by omega)
          rw [this, decide_eq_true (show i < i + 1 by omega), decide_eq_true rfl, Bool.or_true]; rfl
        · rw [decide_eq_false d, Bool.or_false]
          by_cases d2 : i < k
          · rw [decide_eq_true d2, decide_eq_true (show i < k + 1 by omega)]
          · rw [decide_eq_false d2, decide_eq_false (show ¬ i < k + 1 by omega)]
  exact main 24 0 (by omega) 0 (mk_cong mk_0 (fun i _ => by rw [decide_eq_false (Nat.not_lt_zero i)]; rfl))
end Lost
