section Shut2
variable {E : EnvX} {L : Nat} {h : Hp} {nB nT : Nat} {tv : Nat → Nat → Nat} {pk : Nat → Nat}
theorem k55 : ((akd 54 = 1 ∧ aln 54 = 6) ∧ (akd 55 = 1 ∧ aln 55 = 24)) ∧ ((akd 56 = 1 ∧ aln 56 = 8) ∧ (akd 57 = 1 ∧ aln 57 = 8) ∧ (akd 58 = 1 ∧ aln 58 = 8)) := by decide +kernel
theorem in54 {k : Nat} (hk : k < 6) : inI 54 (nI k) := inI_of k55.1.1.1 (by rw [k55.1.1.2]; exact hk) (by rw [k55.1.1.2]; decide)
theorem in55 {k : Nat} (hk : k < 24) : inI 55 (nI k) := inI_of k55.1.2.1 (by rw [k55.1.2.2]; exact hk) (by rw [k55.1.2.2]; decide)
theorem in56 {k : Nat} (hk : k < 8) : inI 56 (nI k) ∧ inI 57 (nI k) ∧ inI 58 (nI k) := ⟨inI_of k55.2.1.1 (by rw [k55.2.1.2]; exact hk) (by rw [k55.2.1.2]; decide), inI_of k55.2.2.1.1 (by rw [k55.2.2.1.2]; exact hk) (by rw [k55.2.2.1.2]; decide), inI_of k55.2.2.2.1 (by rw [k55.2.2.2.2]; exact hk) (by rw [k55.2.2.2.2]; decide)⟩
def ShV (h : Hp) (pk : Nat → Nat) (tv : Nat → Nat → Nat) : Prop := (∀ k, k < 24 → h.2.1 55 k = bx (pk k) ∧ pk k ≤ 8) ∧ ∀ b, b < 8 → h.2.1 56 b = nI (fil pk tv (b + 1)) ∧ h.2.1 57 b = nI (lod pk tv (b + 1)) ∧ h.2.1 58 b = nI (hlv pk (b + 1))
theorem sh_boxOf (hE : EOk E) (hL : 1 ≤ L) (V : ShV h pk tv) {c : Nat} (hc : c ≤ 24) : RdI E L m_Shutting_boxOf 53 [.int (bx c)] h (bx (nx pk c)) := by
  refine B_Shutting_boxOf hE hL ?_
  cases c with
  | zero => exact brT (by decide) ⟨rfl, rfl⟩
  | succ i =>
    rw [bx_S, nIc (by omega), (V.1 i (by omega)).1]
    exact brF (nIneg (by omega)) (brF (nG 24 (by omega)) ⟨in55 (by omega), by rw [nx_S], rfl⟩)
def hosts (pk : Nat → Nat) (tv : Nat → Nat → Nat) (i b : Nat) : Bool := decide (tv i 1 ≤ tv b 4) && !(inCh pk b (i + 1))
theorem sh_mayHost (hE : EOk E) (hL : 2 ≤ L) (S : StV h 1 nB nT tv) (V : ShV h pk tv) (hA : acy pk) {i b : Nat} (hi : i < 24) (hb : b < 8) : RdI E L m_Shutting_mayHost 53 [.int (nI i), .int (nI b)] h (if hosts pk tv i b = true then 1 else 0) := by
  have hp : ∀ i, i < 24 → pk i ≤ 8 := fun i hi => (V.1 i hi).2
  have t1 := (S.2.2.2.2.2 i 1 hi (by omega)).2
  have t4 := (S.2.2.2.2.2 b 4 (by omega) (by omega)).2
  have c8 := chain8 hA hp hb
  refine B_Shutting_mayHost hE (by omega) ((store_told hE (by omega) S (k := 1) hi (by omega)).use ((store_told hE (by omega) S (k := 4) (by omega) (by omega)).use ?_))
  rw [nIl (by omega) (by omega)]
  refine ⟨fun q => ?_, fun q => ⟨?_, rfl⟩⟩
  · have yes : (∃ t, itn pk t (b + 1) = i + 1) → hosts pk tv i b = false := fun ⟨t, e⟩ => by
      have : inCh pk b (i + 1) = true := by
        unfold inCh
        rw [Bool.or_eq_true, decide_eq_true_eq]
        cases t with
        | zero => exact Or.inl e.symm
        | succ t => exact Or.inr ((wi_iff hA (Nat.succ_ne_zero i) (by omega)).mpr ⟨t, e⟩)
      unfold hosts; rw [this]; simp
    have no : (∀ t, t < 8 → itn pk t (b + 1) ≠ i + 1) → hosts pk tv i b = true := fun a => by
      have : inCh pk b (i + 1) = false := by
        cases x : inCh pk b (i + 1)
        · rfl
        · exfalso
          unfold inCh at x
          rw [Bool.or_eq_true, decide_eq_true_eq] at x
          rcases x with x | x
          · exact a 0 (by omega) x.symm
          · obtain ⟨m, hm⟩ := (wi_iff hA (Nat.succ_ne_zero i) (show b + 1 ≤ 24 by omega)).mp x
            by_cases m7 : m + 1 < 8
            · exact a _ m7 hm
            · have := itn_z c8 (show 8 ≤ m + 1 by omega)
              omega
      unfold hosts; rw [this, decide_eq_true q]; rfl
    have main : ∀ f t, f + t = 8 → (∀ s, s < t → itn pk s (b + 1) ≠ i + 1) → at_Shutting_mayHost_28 E L h (fun y h' => y = (if hosts pk tv i b = true then 1 else 0) ∧ h' = h) (nI i) (bx (itn pk t (b + 1))) (nI t) := by
      intro f
      induction f with
      | zero =>
        intro t ht a
        rw [show t = 8 by omega] at a ⊢
        exact B_Shutting_mayHost_28 (brT (nEnd 8) ⟨by rw [if_pos (no a)], rfl⟩)
      | succ f ih =>
        intro t ht a
        have l24 := itn_l24 hp (show b + 1 ≤ 24 by omega) t
        refine B_Shutting_mayHost_28 (brF (nG 8 (by omega)) ?_)
        rw [bx_m1 (by omega)]
        refine ⟨fun z => ⟨?_, rfl⟩, fun z => ?_⟩
        · rw [if_pos (no (fun s hs w => ?_))]
          by_cases d : s < t
          · exact a s d w
          · have := itn_z z (show t ≤ s by omega)
            omega
        · rw [show (bx (itn pk t (b + 1)) = nI i) = (bx (itn pk t (b + 1)) = bx (i + 1)) by rw [bx_S], bx_inj (by omega) (by omega), nI_1]
          refine ⟨fun d => (sh_boxOf hE (by omega) V l24).use ?_, fun d => ⟨?_, rfl⟩⟩
          · have ih1 := ih (t + 1) (by omega) (fun s hs => by
              by_cases e : s = t
              · rw [e]; exact d
              · exact a s (by omega))
            rw [itn_end] at ih1
            exact ih1
          · rw [if_neg (by rw [yes ⟨t, d⟩]; decide)]
    have go := main 8 0 (by omega) (fun s hs => absurd hs (Nat.not_lt_zero s))
    rw [show itn pk 0 (b + 1) = b + 1 from rfl, bx_S] at go
    exact go
  · unfold hosts; rw [decide_eq_false q, if_neg (by simp)]
theorem fits_now (hE : EOk E) (hL : 3 ≤ L) (S : StV h 1 nB nT tv) (V : ShV h pk tv) {b : Nat} (hb : b < 8) (hh : hlv pk (b + 1) < 31) : RdI E L m_Shutting_fitsNow 53 [.int (nI b)] h (if fil pk tv (b + 1) ≤ rom pk tv b (hlv pk (b + 1)) then 1 else 0) := by
  obtain ⟨v1, v2, v3⟩ := V.2 b hb
  have tl : ∀ i k, i < 24 → k < 7 → tv i k ≤ 9999 := fun i k hi hk => (S.2.2.2.2.2 i k hi hk).2
  have rl := rom_le (pk := pk) (n := hlv pk (b + 1)) (tl b 0 (by omega) (by omega)) (tl b 5 (by omega) (by omega))
  have fl := fil_le (pk := pk) (tv := tv) (fun i hi => tl i 0 hi (by omega)) (b + 1)
  refine B_Shutting_fitsNow hE (by omega) (brF (nIneg (by omega)) (brF (nG 8 hb) ⟨(in56 hb).1, (in56 hb).2.2, ?_⟩))
  rw [nIc (by omega), v1, v3]
  refine (store_roomOf hE (by omega) S (b := b) (by omega) hh).use ?_
  rw [show tv b 0 * tv b 5 / 2 ^ hlv pk (b + 1) = rom pk tv b (hlv pk (b + 1)) from rfl, nIt (by omega) (by omega)]
  refine ⟨fun q => ⟨?_, rfl⟩, fun q => ⟨?_, rfl⟩⟩
  · rw [if_neg (by omega)]
  · rw [if_pos (by omega)]
end Shut2
section Shut3
variable {E : EnvX} {L : Nat} {h : Hp} {nB nT : Nat} {tv : Nat → Nat → Nat} {pk : Nat → Nat}
theorem nI_per (a s : Nat) : nI (a + 4294967296 * s) = nI a := by
  apply Int32.toBitVec_inj.1
  rw [nI_bv, nI_bv]
  apply BitVec.eq_of_toNat_eq
  rw [BitVec.toNat_ofNat, BitVec.toNat_ofNat, show (2 : Nat) ^ 32 = 4294967296 from rfl, Nat.add_mul_mod_self_left]
theorem add_neg_n (a s : Nat) : nI (a + s) + (-1) * nI s = nI a := by
  rw [show (-1 : Int32) = nI 4294967295 by decide, nI_mul, nI_add, show a + s + 4294967295 * s = a + 4294967296 * s by omega, nI_per]
def vis (pk : Nat → Nat) (b : Nat) : Nat → Nat → Bool
  | 0, _ => false
  | t + 1, c => vis pk b t c || decide (itn pk t (b + 1) = c + 1)
theorem vis_iff {b c : Nat} : ∀ t, vis pk b t c = true ↔ ∃ s, s < t ∧ itn pk s (b + 1) = c + 1
  | 0 => ⟨fun h => absurd h (by show ¬ (false = true); decide), fun ⟨s, h, _⟩ => absurd h (Nat.not_lt_zero s)⟩
  | t + 1 => by
    show (vis pk b t c || decide (itn pk t (b + 1) = c + 1)) = true ↔ _
    rw [Bool.or_eq_true, vis_iff t, decide_eq_true_eq]
    constructor
    · rintro (⟨s, h1, h2⟩ | h)
      · exact ⟨s, by omega, h2⟩
      · exact ⟨t, by omega, h⟩
    · rintro ⟨s, h1, h2⟩
      by_cases e : s = t
      · rw [e] at h2; exact Or.inr h2
      · exact Or.inl ⟨s, by omega, h2⟩
theorem vis_ch (hA : acy pk) (hp : ∀ i, i < 24 → pk i ≤ 8) {b c t : Nat} (hb : b < 8) (ht : t = 8 ∨ itn pk t (b + 1) = 0) : vis pk b t c = inCh pk b (c + 1) := by
  have c8 := chain8 hA hp hb
  have key : vis pk b t c = true ↔ inCh pk b (c + 1) = true := by
    rw [vis_iff]
    unfold inCh
    rw [Bool.or_eq_true, decide_eq_true_eq, wi_iff hA (Nat.succ_ne_zero c) (show b + 1 ≤ 24 by omega)]
    constructor
    · rintro ⟨s, -, e⟩
      cases s with
      | zero => exact Or.inl e.symm
      | succ s => exact Or.inr ⟨s, e⟩
    · intro z
      have : ∃ s, itn pk s (b + 1) = c + 1 := by
        rcases z with z | ⟨m, e⟩
        · exact ⟨0, z.symm⟩
        · exact ⟨m + 1, e⟩
      obtain ⟨s, e⟩ := this
      refine ⟨s, Classical.byContradiction fun w => ?_, e⟩
      rcases ht with q | q
      · have := itn_z c8 (show 8 ≤ s by omega); omega
      · have := itn_z q (show t ≤ s by omega); omega
  cases h1 : vis pk b t c <;> cases h2 : inCh pk b (c + 1)
  · rfl
  · rw [h1, h2] at key; exact absurd (key.mpr rfl) (by decide)
  · rw [h1, h2] at key; exact absurd (key.mp rfl) (by decide)
  · rfl
theorem sh_loads (hA : acy pk) (hp : ∀ i, i < 24 → pk i ≤ 8) {i b : Nat} (hb : b < 8) (hib : i ≠ b) (hw : wi pk (i + 1) 8 (b + 1) = false) (h55 : ∀ k, k < 24 → k ≠ i → h.2.1 55 k = bx (pk k)) {v3 v5 : Int32} {post : Hp → Prop} (H : ∀ h', EqO (fun q => q = 57) h h' → (∀ c, c < 8 → h'.2.1 57 c = if inCh pk b (c + 1) = true then h.2.1 57 c + v3 * v5 else h.2.1 57 c) → post h') : at_Shutting_move_127 E L h post v3 v5 (nI b) 0 := by
  have ni : ∀ t, itn pk t (b + 1) ≠ i + 1 := fun t e => by
    cases t with
    | zero => have e' : b + 1 = i + 1 := e; omega
    | succ t =>
      have := (wi_iff hA (Nat.succ_ne_zero i) (show b + 1 ≤ 24 by omega)).mpr ⟨t, e⟩
      rw [hw] at this; cases this
  have le8 : ∀ s, itn pk s (b + 1) ≤ 8 := fun s => by
    cases s with
    | zero => show b + 1 ≤ 8; omega
    | succ s => rw [itn_end]; exact nx_le8 hp (itn_l24 hp (by omega) s)
  have main : ∀ f t, f + t = 8 → ∀ h1, EqO (fun q => q = 57) h h1 → (∀ c, c < 8 → h1.2.1 57 c = if vis pk b t c = true then h.2.1 57 c + v3 * v5 else h.2.1 57 c) → at_Shutting_move_127 E L h1 post v3 v5 (bx (itn pk t (b + 1))) (nI t) := by
    intro f
    induction f with
    | zero =>
      intro t ht h1 e1 a1
      rw [show t = 8 by omega] at a1 ⊢
      exact B_Shutting_move_127 (brT (nEnd 8) (H h1 e1 (fun c hc => by rw [a1 c hc, vis_ch hA hp hb (Or.inl rfl)])))
    | succ f ih =>
      intro t ht h1 e1 a1
      have l8 := le8 t
      refine B_Shutting_move_127 (brF (nG 8 (by omega)) ?_)
      by_cases z : itn pk t (b + 1) = 0
      · rw [z]
        exact brT bxneg0 (H h1 e1 (fun c hc => by rw [a1 c hc, vis_ch hA hp hb (Or.inr z)]))
      · obtain ⟨c, ec⟩ : ∃ c, itn pk t (b + 1) = c + 1 := ⟨itn pk t (b + 1) - 1, by omega⟩
        have c8 : c < 8 := by omega
        have nv : vis pk b t c = false := by
          cases x : vis pk b t c
          · rfl
          · obtain ⟨s, s1, s2⟩ := (vis_iff t).mp x
            have cyc : itn pk ((t - s - 1) + 1) (c + 1) = c + 1 := by
              rw [← s2, ← itn_pl, show s + (t - s - 1 + 1) = t by omega, ec, s2]
            exact absurd (hA (c + 1) (by omega)) (no_cyc (Nat.succ_ne_zero c) cyc 9)
        have ci : c ≠ i := fun e => ni t (by rw [ec, e])
        have r55 : (sA h1 57 c (h1.2.1 57 c + v3 * v5)).2.1 55 c = bx (pk c) := by
          rw [sA_A, if_neg (by omega), (e1 55 (by omega)).2.1]; exact h55 c (by omega) ci
        rw [ec, bx_S]
        refine brF (nIneg (by omega)) (brF (nG 8 c8) ⟨(in56 c8).2.1, (in56 c8).2.1, in55 (by omega), ?_⟩)
        rw [nIc (by omega), r55, nI_1]
        have ih1 := ih (t + 1) (by omega) (sA h1 57 c (h1.2.1 57 c + v3 * v5)) (e1.trans (EqO.sA (F := fun q => q = 57) rfl)) (fun d hd => by
          rw [sA_A, if_pos rfl]
          have vs : vis pk b (t + 1) d = (vis pk b t d || decide (itn pk t (b + 1) = d + 1)) := rfl
          by_cases e : d = c
          · have v1 : vis pk b (t + 1) d = true := by rw [vs, e, ec, decide_eq_true rfl, Bool.or_true]
            rw [if_pos e, if_pos v1, e, a1 c c8, if_neg (by rw [nv]; decide)]
          · rw [if_neg e, a1 d hd, vs, ec, decide_eq_false (show ¬ c + 1 = d + 1 by omega), Bool.or_false])
        rw [itn_end, ec, nx_S] at ih1
        exact ih1
  have := main 8 0 (by omega) h EqO.rfl' (fun c hc => by rw [if_neg (show ¬ vis pk b 0 c = true by show ¬ (false = true); decide)])
  rw [show itn pk 0 (b + 1) = b + 1 from rfl, bx_S] at this
  exact this
end Shut3
