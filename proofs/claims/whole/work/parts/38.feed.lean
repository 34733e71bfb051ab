/-! ===== feed ===== -/
/-- the byte of v that is s bits up -/
def byt (v : Int32) (s : Nat) : Int32 := nI (v.toBitVec.toNat / 2 ^ s % 256)
theorem bytX (v : Int32) {s : Nat} (hs : s < 32) : (v.toUInt32 >>> ((nI s).toUInt32 &&& Int32.toUInt32 31)).toInt32 &&& 255 = byt v s := by
  rw [pk_and _ 8 (by decide)]
  unfold byt
  have e : (v.toUInt32 >>> ((nI s).toUInt32 &&& Int32.toUInt32 31)).toInt32.toBitVec.toNat = v.toBitVec.toNat / 2 ^ s := by
    have h1 : ((nI s).toUInt32 &&& Int32.toUInt32 31).toNat = s := by
      have : ∀ s, s < 32 → ((nI s).toUInt32 &&& Int32.toUInt32 31).toNat = s := by decide
      exact this s hs
    show (v.toUInt32 >>> ((nI s).toUInt32 &&& Int32.toUInt32 31)).toNat = _
    rw [UInt32.toNat_shiftRight, h1, Nat.mod_eq_of_lt hs, Nat.shiftRight_eq_div_pow]
    rfl
  rw [e]
theorem bytM (v : Int32) {s : Nat} (hs : s ≤ 24) : (v >>> (nI s)) &&& 255 = byt v s := by
  rw [pk_and _ 8 (by decide)]
  unfold byt
  have e : (v >>> (nI s)).toBitVec = v.toBitVec.sshiftRight s := by
    have h1 : ((nI s).toBitVec.smod 32).toNat = s := by
      have : ∀ s, s < 25 → ((nI s).toBitVec.smod 32).toNat = s := by decide
      exact this s (by omega)
    rw [Int32.toBitVec_shiftRight]
    show v.toBitVec.sshiftRight ((nI s).toBitVec.smod 32).toNat = _
    rw [h1]
  rw [e]
  have key : (v.toBitVec.sshiftRight s).toNat % 2 ^ 8 = v.toBitVec.toNat / 2 ^ s % 256 := by
    rw [← Nat.shiftRight_eq_div_pow]
    apply Nat.eq_of_testBit_eq
    intro i
    rw [show (256 : Nat) = 2 ^ 8 from rfl, Nat.testBit_mod_two_pow, Nat.testBit_mod_two_pow, Nat.testBit_shiftRight]
    by_cases hi : i < 8
    · have h2 := BitVec.getLsbD_sshiftRight v.toBitVec s i
      rw [BitVec.getLsbD] at h2
      rw [h2]
      simp only [show s + i < 32 by omega, if_true, show ¬ 32 ≤ i by omega, decide_false, Bool.not_false, Bool.true_and, hi, decide_true]
      rfl
    · simp only [hi, decide_false, Bool.false_and]
  rw [key]
theorem byt_b (v : Int32) (s : Nat) : ∃ b, b < 256 ∧ byt v s = nI b := ⟨_, Nat.mod_lt _ (by decide), rfl⟩
section Feed
variable {E : EnvX} {L : Nat} {h : Hp} {K : Nat}
theorem k10 : akd 10 = 1 ∧ aln 10 = 900 ∧ akd 77 = 1 ∧ aln 77 = 900 := by decide +kernel
/-- n bytes so far; one more -/
def FrT (n : Nat) (f : Nat → Int32) (m : Nat) (h h' : Hp) : Prop := EqO (fun q => q = 9 ∨ q = 10) h h' ∧ h'.1 9 2 = nI (n + m) ∧ (h'.1 9 4 = h.1 9 4 ∧ h'.1 9 5 = h.1 9 5) ∧ (∀ j, j < n → h'.2.1 10 j = h.2.1 10 j) ∧ ∀ j, j < m → h'.2.1 10 (n + j) = f j
theorem FrT.step {n m : Nat} {f : Nat → Int32} {h h' : Hp} (a : FrT n f m h h') (hm : n + m < 900) : FrT n f (m + 1) h (sI (sA h' 10 (n + m) (f m)) 9 2 (nI (n + m + 1))) := by
  obtain ⟨a1, a2, a3, a4, a5⟩ := a
  refine ⟨a1.trans ((EqO.sA (Or.inr rfl)).trans (EqO.sI (Or.inl rfl))), ?_, ⟨?_, ?_⟩, fun j hj => ?_, fun j hj => ?_⟩
  · rw [sI_1, if_pos rfl, if_pos rfl, Nat.add_assoc]
  · rw [sI_1, if_pos rfl, if_neg (by decide)]; exact a3.1
  · rw [sI_1, if_pos rfl, if_neg (by decide)]; exact a3.2
  · rw [sI_A, sA_A, if_pos rfl, if_neg (by omega)]; exact a4 j hj
  · rw [sI_A, sA_A, if_pos rfl]
    by_cases e : j = m
    · rw [if_pos (by omega), e]
    · rw [if_neg (by omega)]; exact a5 j (by omega)
theorem rd_append (hE : EOk E) (hL : 1 ≤ L) {n m : Nat} {f : Nat → Int32} {h0 : Hp} (a : FrT n f m h0 h) (hn : n + m + 4 ≤ 900) (v : Int32) (hf : ∀ t, t < 4 → f (m + t) = byt v (24 - 8 * t)) : ConV E L m_Reader_append 9 [.int v] h (fun h' => FrT n f (m + 4) h0 h') := by
  refine B_Reader_append hE hL ?_
  have st : ∀ (t : Nat) (h1 : Hp), t < 4 → FrT n f (m + t) h0 h1 → (FrT n f (m + t + 1) h0 (sI (sA h1 10 (n + (m + t)) (f (m + t))) 9 2 (nI (n + (m + t) + 1))) → at_Reader_append_3 E L (sI (sA h1 10 (n + (m + t)) (f (m + t))) 9 2 (nI (n + (m + t) + 1))) (fun h' => FrT n f (m + 4) h0 h') v (nI (24 - 8 * t) + (-8))) → at_Reader_append_3 E L h1 (fun h' => FrT n f (m + 4) h0 h') v (nI (24 - 8 * t)) := by
    intro t h1 ht b H
    have e1 := b.2.1
    refine B_Reader_append_3 (brF (nIneg (by omega)) ?_)
    rw [e1, bytX v (by omega), ← hf t ht, nIc (by omega)]
    refine brF (nG 900 (by omega)) ⟨inI_of k10.1 (by rw [k10.2.1]; omega) (by rw [k10.2.1]; decide), ?_⟩
    rw [sA_1, e1, nI_1]
    exact H (b.step (by omega))
  refine st 0 h (by omega) a (fun b0 => ?_)
  refine st 1 _ (by omega) b0 (fun b1 => ?_)
  refine st 2 _ (by omega) b1 (fun b2 => ?_)
  refine st 3 _ (by omega) b2 (fun b3 => ?_)
  exact B_Reader_append_3 (brT (by decide) b3)
def fedF (a b c d e : Int32) (j : Nat) : Int32 := byt (if j < 4 then a else if j < 8 then b else if j < 12 then c else if j < 16 then d else e) (24 - 8 * (j % 4))
def FrU (n : Nat) (f : Nat → Int32) (m : Nat) (h h' : Hp) : Prop := EqO (fun q => q = 74 ∨ q = 77) h h' ∧ h'.1 74 5 = nI (n + m) ∧ (h'.1 74 13 = h.1 74 13 ∧ h'.1 74 14 = h.1 74 14) ∧ (∀ j, j < n → h'.2.1 77 j = h.2.1 77 j) ∧ ∀ j, j < m → h'.2.1 77 (n + j) = f j
theorem FrU.step {n m : Nat} {f : Nat → Int32} {h h' : Hp} (a : FrU n f m h h') (hm : n + m < 900) : FrU n f (m + 1) h (sI (sA h' 77 (n + m) (f m)) 74 5 (nI (n + m + 1))) := by
  obtain ⟨a1, a2, a3, a4, a5⟩ := a
  refine ⟨a1.trans ((EqO.sA (Or.inr rfl)).trans (EqO.sI (Or.inl rfl))), ?_, ⟨?_, ?_⟩, fun j hj => ?_, fun j hj => ?_⟩
  · rw [sI_1, if_pos rfl, if_pos rfl, Nat.add_assoc]
  · rw [sI_1, if_pos rfl, if_neg (by decide)]; exact a3.1
  · rw [sI_1, if_pos rfl, if_neg (by decide)]; exact a3.2
  · rw [sI_A, sA_A, if_pos rfl, if_neg (by omega)]; exact a4 j hj
  · rw [sI_A, sA_A, if_pos rfl]
    by_cases e : j = m
    · rw [if_pos (by omega), e]
    · rw [if_neg (by omega)]; exact a5 j (by omega)
theorem shf {k : Nat} (hk : k < 20) : (24 - (8 * (nI k - nI k / 4 * 4))) &&& 31 = nI (24 - 8 * (k % 4)) :=
  (show ∀ k, k < 20 → (24 - (8 * (nI k - nI k / 4 * 4))) &&& 31 = nI (24 - 8 * (k % 4)) by decide) k hk
theorem m_feed (hE : EOk E) (hL : 1 ≤ L) {n : Nat} (hn : n + 20 ≤ 900) (a b c d e : Int32) {h0 : Hp} {post : Int32 → Hp → Prop} (H : ∀ h2, FrU n (fedF a b c d e) 20 h0 h2 → post (nI (n + 20)) h2) : ∀ m k, m + k = 20 → ∀ h1, FrU n (fedF a b c d e) k h0 h1 → at_M_feed_24 E L h1 post a b c d e (nI k) := by
  intro m
  induction m with
  | zero =>
    intro k hk h1 f
    rw [show k = 20 by omega] at f ⊢
    refine B_M_feed_24 (brT (nEnd 20) ?_)
    rw [f.2.1]
    exact H h1 f
  | succ m ih =>
    intro k hk h1 f
    have hk20 : k < 20 := by omega
    have e1 := f.2.1
    have go : ∀ v : Int32, fedF a b c d e k = byt v (24 - 8 * (k % 4)) → (¬ (4 : Int32) = 0 ∧ (inI 77 (h1.1 74 5) ∧ at_M_feed_24 E L (sI (sA h1 77 (h1.1 74 5).toNatClampNeg ((v >>> ((24 - (8 * (nI k - nI k / 4 * 4))) &&& 31)) &&& 255)) 74 5 (((sA h1 77 (h1.1 74 5).toNatClampNeg ((v >>> ((24 - (8 * (nI k - nI k / 4 * 4))) &&& 31)) &&& 255)).1 74 5) + 1)) post a b c d e (nI k + 1))) := by
      intro v hv
      rw [shf hk20, bytM v (by omega), ← hv, sA_1, e1, nIc (by omega), nI_1, nI_1]
      exact ⟨by decide, inI_of k10.2.2.1 (by rw [k10.2.2.2]; omega) (by rw [k10.2.2.2]; decide), ih (k + 1) (by omega) _ (f.step (by omega))⟩
    refine B_M_feed_24 (brF (nG 20 hk20) ?_)
    by_cases c4 : k < 4
    · exact brF (nG 4 c4) (go a (by unfold fedF; rw [if_pos c4]))
    refine brT (nLe 4 (by omega) (by omega)) ?_
    by_cases c8 : k < 8
    · exact brF (nG 8 c8) (go b (by unfold fedF; rw [if_neg c4, if_pos c8]))
    refine brT (nLe 8 (by omega) (by omega)) ?_
    by_cases c12 : k < 12
    · exact brF (nG 12 c12) (go c (by unfold fedF; rw [if_neg c4, if_neg c8, if_pos c12]))
    refine brT (nLe 12 (by omega) (by omega)) ?_
    by_cases c16 : k < 16
    · exact brF (nG 16 c16) (go d (by unfold fedF; rw [if_neg c4, if_neg c8, if_neg c12, if_pos c16]))
    · exact brT (nLe 16 (by omega) (by omega)) (go e (by unfold fedF; rw [if_neg c4, if_neg c8, if_neg c12, if_neg c16]))
theorem eq_feed (hE : EOk E) (hL : 20 ≤ L) (I : Inv h K) (hK : K + 60 ≤ 100000) (a b c d e : Int32) : Same E L m_X_feed m_M_feed [.int a, .int b, .int c, .int d, .int e] h K := by
  obtain ⟨-, i1, i2, i3, i4, i5, i6⟩ := id I
  obtain ⟨n, hn, t1, t2, t3⟩ := i3
  have p1 : RdI E (L - 1) m_Reader_hasPlaceFor 9 [.int 20] h (if 900 < n + 20 then 0 else 1) := by
    refine B_Reader_hasPlaceFor hE (by omega) ?_
    rw [t1, show (20 : Int32) = nI 20 from rfl, show (900 : Int32) = nI 900 from rfl, nI_add, nIt (by omega) (by omega)]
    refine ⟨fun z => ?_, fun z => ?_⟩
    · rw [if_pos z]; exact ⟨rfl, rfl⟩
    · rw [if_neg z]; exact ⟨rfl, rfl⟩
  by_cases c0 : 900 < n + 20
  · rw [if_pos c0] at p1
    refine same_rd (x := -5) I hK (RdX.of i6 (B_X_feed hE (by omega) (p1.use (brT' rfl ⟨rfl, rfl⟩)))) (fun h1 z I1 => ?_)
    refine B_M_feed hE (by omega) ?_
    rw [show (sI h1 74 0 0).1 74 5 = nI n by rw [sI_1, if_pos rfl, if_neg (by decide), z.f 74 5]; exact t2, show (20 : Int32) = nI 20 from rfl, show (900 : Int32) = nI 900 from rfl, nI_add, nIl (by omega) (by omega)]
    exact brF (by omega) ⟨rfl, thr_eq _, I1.2.2.2.2.2.2⟩
  · rw [if_neg c0] at p1
    have f0 : FrT n (fedF a b c d e) 0 h h := ⟨EqO.rfl', t1, ⟨rfl, rfl⟩, fun _ _ => rfl, fun j hj => absurd hj (Nat.not_lt_zero j)⟩
    have fl : ∀ t, t < 4 → fedF a b c d e (0 + t) = byt a (24 - 8 * t) ∧ fedF a b c d e (0 + 4 + t) = byt b (24 - 8 * t) ∧ fedF a b c d e (0 + 4 + 4 + t) = byt c (24 - 8 * t) ∧ fedF a b c d e (0 + 4 + 4 + 4 + t) = byt d (24 - 8 * t) ∧ fedF a b c d e (0 + 4 + 4 + 4 + 4 + t) = byt e (24 - 8 * t) := fun t ht => by
      rcases (show t = 0 ∨ t = 1 ∨ t = 2 ∨ t = 3 by omega) with rfl | rfl | rfl | rfl <;> exact ⟨rfl, rfl, rfl, rfl, rfl⟩
    refine B_X_feed hE (by omega) (p1.use (brF' (by decide) ?_))
    refine (rd_append hE (by omega) f0 (by omega) a (fun t ht => (fl t ht).1)).mono (fun h1 f1 => ?_)
    refine (rd_append hE (by omega) f1 (by omega) b (fun t ht => (fl t ht).2.1)).mono (fun h2 f2 => ?_)
    refine (rd_append hE (by omega) f2 (by omega) c (fun t ht => (fl t ht).2.2.1)).mono (fun h3 f3 => ?_)
    refine (rd_append hE (by omega) f3 (by omega) d (fun t ht => (fl t ht).2.2.2.1)).mono (fun h4 f4 => ?_)
    refine (rd_append hE (by omega) f4 (by omega) e (fun t ht => (fl t ht).2.2.2.2)).mono (fun h5 f5 => ?_)
    have f6 : FrT n (fedF a b c d e) 20 h h5 := f5
    have l1 : RdI E (L - 1) m_Reader_length 9 [] h5 (nI (n + 20)) := B_Reader_length hE (by omega) ⟨f6.2.1, rfl⟩
    refine l1.use ?_
    refine B_M_feed hE (by omega) ?_
    have e5 : (sI h5 74 0 0).1 74 5 = nI n := by rw [sI_1, if_pos rfl, if_neg (by decide), (f6.1 74 (by omega)).1]; exact t2
    rw [e5, show (20 : Int32) = nI 20 from rfl, show (900 : Int32) = nI 900 from rfl, nI_add, nIl (by omega) (by omega)]
    refine brT (by omega) ?_
    refine m_feed hE (by omega) (n := n) (by omega) a b c d e (h0 := h5) (fun h6 u => ⟨rfl, ?_⟩) 20 0 (by omega) _ ⟨EqO.sI (Or.inl rfl), e5, ⟨rfl, rfl⟩, fun _ _ => rfl, fun j hj => absurd hj (Nat.not_lt_zero j)⟩
    have g : ∀ q, ¬ (q = 9 ∨ q = 10 ∨ q = 74 ∨ q = 77) → h6.1 q = h.1 q ∧ h6.2.1 q = h.2.1 q ∧ h6.2.2 q = h.2.2 q := fun q hq => by
      have a := f6.1 q (by omega)
      have b := u.1 q (by omega)
      exact ⟨b.1.trans a.1, b.2.1.trans a.2.1, b.2.2.trans a.2.2⟩
    have gf : ∀ q k, ¬ (q = 9 ∨ q = 10 ∨ q = 74 ∨ q = 77) → h6.1 q k = h.1 q k := fun q k hq => by rw [(g q hq).1]
    refine ⟨hK, ?_, ?_, ?_, ?_, ?_, PickZ_eq i6 (fun a h1 h2 => (g a (by omega)).2.1)⟩
    · exact (CurR_eq i1 (gf 1 1 (by omega)) (gf 1 2 (by omega)) (g 2 (by omega)).2.1 (g 4 (by omega)).2.1 (g 5 (by omega)).2.1 (g 75 (by omega)).2.1).wk (by omega)
    · intro r hr
      have h0 := i2 r hr
      rw [gf (14 + 2 * r) 2 (by omega), gf (14 + 2 * r) 1 (by omega), (g (15 + 2 * r) (by omega)).2.2, (g 93 (by omega)).2.1, (g 94 (by omega)).2.1, (g 95 (by omega)).2.2]
      exact h0
    · refine ⟨n + 20, by omega, ?_, u.2.1, fun k hk => ?_⟩
      · rw [(u.1 9 (by omega)).1]; exact f6.2.1
      · rw [(u.1 10 (by omega)).2.1]
        rcases Nat.lt_or_ge k n with z | z
        · rw [f6.2.2.2.1 k z, u.2.2.2.1 k z, (f6.1 77 (by omega)).2.1]
          exact t3 k z
        · obtain ⟨j, rfl⟩ : ∃ j, k = n + j := ⟨k - n, by omega⟩
          rw [f6.2.2.2.2 j (by omega), u.2.2.2.2 j (by omega)]
          obtain ⟨b, hb, e⟩ := byt_b (if j < 4 then a else if j < 8 then b else if j < 12 then c else if j < 16 then d else e) (24 - 8 * (j % 4))
          exact ⟨b, hb, e, e⟩
    · refine ⟨?_, ?_⟩
      · rw [(u.1 9 (by omega)).1, f6.2.2.1.1, u.2.2.1.1, (f6.1 74 (by omega)).1]; exact i4.1
      · rw [(u.1 9 (by omega)).1, f6.2.2.1.2, u.2.2.1.2, (f6.1 74 (by omega)).1]; exact i4.2
    · refine ImgR.wk (K := K) ?_ (by omega)
      intro i hi
      have h0 := i5 i hi
      rw [(g 24 (by omega)).2.1, (g 76 (by omega)).2.1]
      refine h0.elim Or.inl (fun q => Or.inr ⟨q.1, q.2.1, ?_⟩)
      exact CurR_eq q.2.2 (gf _ 1 (by omega)) (gf _ 2 (by omega)) (g _ (by omega)).2.1 (g _ (by omega)).2.1 (g _ (by omega)).2.1 (g 75 (by omega)).2.1
end Feed
