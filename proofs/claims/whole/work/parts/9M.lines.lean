/-! ===== the reference's lines ===== -/
section LineM
variable {E : EnvX} {L : Nat} {h h0 : Hp} {T : Nat → Nat} {n lo : Nat} {Z : Zr}
def mXF (h : Hp) (Z : Zr) : Prop := Z.1 ≠ 0 ∧ Z.1 ≤ 4 ∧ h.1 74 11 = nI Z.1 ∧ h.1 74 12 = nI Z.2.1
def mG (T : Nat → Nat) (n : Nat) (Z : Zr) (lo : Nat) (s : Sr) (h : Hp) : Prop := h.1 74 11 = 0 ∧ ∃ a e κ v, lo ≤ a ∧ mTk T n h a e κ v ∧ rQ T n a s = Z
def mJ (T : Nat → Nat) (n : Nat) (Z : Zr) (lo : Nat) (s : Sr) (h : Hp) : Prop := mXF h Z ∨ mG T n Z lo s h
theorem mXF.ne (q : mXF h Z) : ¬ h.1 74 11 = 0 := by
  have := q.2.1
  rw [q.2.2.1, nI_z (by omega)]; exact q.1
theorem mJ.wk {s : Sr} {lo' : Nat} (q : mJ T n Z lo s h) (hl : lo' ≤ lo) : mJ T n Z lo' s h := q.elim Or.inl (fun q => Or.inr ⟨q.1, by
  obtain ⟨a, e, κ, v, h1, h2⟩ := q.2
  exact ⟨a, e, κ, v, by omega, h2⟩⟩)
theorem m_fails_on (hE : EOk E) (hL : 1 ≤ L) {f : Int32} (q : ¬ h.1 74 11 = 0) : WrV E L m_M_fails 74 [.int f] h h := B_M_fails hE hL (brF q rfl)
theorem m_fails (hE : EOk E) (hL : 1 ≤ L) {f κ a : Nat} (h11 : h.1 74 11 = 0) (h9 : h.1 74 9 = nI κ) (h12 : κ ≤ 12) (h6 : h.1 74 6 = nI a) (hf : f ≠ 0) (hf4 : f ≤ 4) (e1 : Z.1 = if κ = 12 then 1 else f) (e2 : Z.2.1 = a) : ConV E L m_M_fails 74 [.int (nI f)] h (fun h' => mF h h' ∧ mXF h' Z) := by
  refine B_M_fails hE hL (brT h11 ?_)
  rw [h9, show (12 : Int32) = nI 12 from rfl, nIe (by omega) (by decide)]
  refine ⟨fun c => ?_, fun c => ?_⟩
  · rw [if_neg c] at e1
    refine ⟨(mF.rfl'.s (by decide) (by decide)).s (by decide) (by decide), by rw [e1]; exact hf, by rw [e1]; exact hf4, ?_, ?_⟩
    · rw [e1, sI_1, if_pos rfl, if_neg (by decide), sI_1, if_pos rfl, if_pos rfl]
    · rw [e2, sI_1, if_pos rfl, if_pos rfl]; exact h6
  · rw [if_pos c] at e1
    refine ⟨(mF.rfl'.s (by decide) (by decide)).s (by decide) (by decide), by rw [e1]; decide, by rw [e1]; decide, ?_, ?_⟩
    · rw [e1, sI_1, if_pos rfl, if_neg (by decide), sI_1, if_pos rfl, if_pos rfl]; rfl
    · rw [e2, sI_1, if_pos rfl, if_pos rfl]; exact h6
theorem m_is_on (hE : EOk E) (hL : 1 ≤ L) {k : Int32} (q : ¬ h.1 74 11 = 0) : RdI E L m_M_is 74 [.int k] h 0 := B_M_is hE hL (brF' q ⟨rfl, rfl⟩)
theorem m_is_ok (hE : EOk E) (hL : 1 ≤ L) {k κ : Nat} (q : h.1 74 11 = 0) (h9 : h.1 74 9 = nI κ) (h1 : κ ≤ 12) (h2 : k ≤ 12) : RdI E L m_M_is 74 [.int (nI k)] h (if κ = k then 1 else 0) := by
  refine B_M_is hE hL (brT' q ?_)
  rw [h9, nIe (by omega) (by omega)]
  refine ⟨fun c => ?_, fun c => ?_⟩
  · rw [if_neg c]; exact ⟨rfl, rfl⟩
  · rw [if_pos c]; exact ⟨rfl, rfl⟩
/-- the next token, in the state s' -/
theorem m_go (hE : EOk E) (hL : 3 ≤ L) (t : mTp h T n) {a e κ v : Nat} (q11 : h.1 74 11 = 0) (tk : mTk T n h a e κ v) {s' : Sr} (hlo : lo ≤ a) (hae : a < e) (hz : rQ T n e s' = Z) : ConV E L m_M_next 74 [] h (fun h' => mF h h' ∧ mG T n Z (lo + 1) s' h') := by
  obtain ⟨t6, t7, t9, t10, tt⟩ := tk
  refine (m_next hE hL t t7 tt.2.1 tt.2.2.1).mono (fun h' x => ?_)
  obtain ⟨x1, x2, a', e', κ', v', x3, x4, x5⟩ := x
  refine ⟨x1, x2.trans q11, a', e', κ', v', by omega, x5, ?_⟩
  rw [← hz]
  exact (rQ_to x3 x5.2.2.2.2.1 x4).symm
theorem m_must (hE : EOk E) (hL : 4 ≤ L) (t : mTp h T n) {k : Nat} {s s' : Sr} (hk : k ≤ 12) (st : stW T n k s s') (J : mJ T n Z lo s h) : ConV E L m_M_must 74 [.int (nI k)] h (fun h' => mF h h' ∧ (h'.1 74 11 = 0 → h.1 74 11 = 0) ∧ mJ T n Z (lo + 1) s' h') := by
  rcases J with q | ⟨q11, a, e, κ, v, hlo, tk, hz⟩
  · exact B_M_must hE (by omega) ((m_is_on hE (by omega) q.ne).use (brT' rfl ((m_fails_on hE (by omega) q.ne).use ⟨mF.rfl', id, Or.inl q⟩)))
  · have tk0 := tk
    obtain ⟨t6, t7, t9, t10, tt⟩ := tk
    have h12 := tok_12 tt
    obtain ⟨s1, s2⟩ := st a e κ v tt
    refine B_M_must hE (by omega) ((m_is_ok hE (by omega) q11 t9 h12 hk).use ?_)
    by_cases c : κ = k
    · rw [if_pos c]
      obtain ⟨s3, s4⟩ := s1 c
      exact brF' (by decide) ((m_go hE (by omega) t q11 tk0 hlo s3 (s4.symm.trans hz)).mono (fun h' x => ⟨x.1, fun _ => q11, Or.inr x.2⟩))
    · rw [if_neg c]
      obtain ⟨s3, s4⟩ := s2 c
      rw [hz] at s3 s4
      exact brT' rfl ((m_fails hE (by omega) (f := 2) q11 t9 h12 t6 (by decide) (by decide) s3 s4).mono (fun h' x => ⟨x.1, fun _ => q11, Or.inl x.2⟩))
/-- a number is taken -/
def tkP (T : Nat → Nat) (n : Nat) (Z : Zr) (lo lw hi : Nat) (s' : Nat → Sr) (h : Hp) (y : Int32) (h' : Hp) : Prop := mF h h' ∧ ∃ v, lw ≤ v ∧ v ≤ hi ∧ (h'.1 74 11 = 0 → h.1 74 11 = 0 ∧ y = nI v) ∧ mJ T n Z lo (s' v) h'
theorem m_takes (hE : EOk E) (hL : 4 ≤ L) (t : mTp h T n) {lw hi : Nat} {s : Sr} {s' : Nat → Sr} (hlh : lw ≤ hi) (hh : hi ≤ 9999) (st : stN T n lw hi s s') (J : mJ T n Z lo s h) : ConI E L m_M_takes 74 [.int (nI lw), .int (nI hi)] h (tkP T n Z lo lw hi s' h) := by
  rcases J with q | ⟨q11, a, e, κ, v, hlo, tk, hz⟩
  · exact B_M_takes hE (by omega) ((m_is_on hE (by omega) q.ne).use (brT' rfl ((m_fails_on hE (by omega) q.ne).use (brF' q.ne ⟨mF.rfl', lw, by omega, hlh, fun c => absurd c q.ne, Or.inl q⟩))))
  · have tk0 := tk
    obtain ⟨t6, t7, t9, t10, tt⟩ := tk
    have h12 := tok_12 tt
    obtain ⟨s0, s1, s2, s3⟩ := st a e κ v tt
    refine B_M_takes hE (by omega) ?_
    have is9 : RdI E (L - 1) m_M_is 74 [.int 9] h (if κ = 9 then 1 else 0) := m_is_ok hE (by omega) (k := 9) q11 t9 h12 (by decide)
    refine is9.use ?_
    by_cases c : κ = 9
    · rw [if_pos c]
      refine brF' (by decide) ?_
      obtain ⟨v9, hae⟩ := s0 c
      rw [t10 c]
      by_cases cv : lw ≤ v ∧ v ≤ hi
      · have w := m_w_yes (h := h) hE (show 1 ≤ L - 1 by omega) cv.1 cv.2 (by omega)
        rw [← nI_l (by omega), ← nI_l (by omega)] at w
        refine w.use (brF' (by decide) (brT' q11 ?_))
        refine (m_go hE (by omega) t q11 tk0 hlo hae ((s1 c cv).symm.trans hz)).mono (fun h' x => ⟨x.1, v, cv.1, cv.2, fun _ => ⟨q11, t10 c⟩, (mJ.wk (Or.inr x.2) (Nat.le_succ _))⟩)
      · have w := m_w_no (h := h) hE (show 1 ≤ L - 1 by omega) hlh (show hi < 2147483648 by omega) (v := nI v) (fun z => cv (by
          obtain ⟨k, z1, z2, z3⟩ := z
          rw [nIe (by omega) (by omega)] at z3
          omega))
        rw [← nI_l (by omega), ← nI_l (by omega)] at w
        obtain ⟨s4, s5⟩ := s2 c cv
        rw [hz] at s4 s5
        refine w.use (brT' rfl ((m_fails hE (by omega) (f := 3) q11 t9 h12 t6 (by decide) (by decide) (by rw [s4, if_neg (by omega)]) s5).mono (fun h' x => brF' x.2.ne ⟨x.1, lw, by omega, hlh, fun c => absurd c x.2.ne, Or.inl x.2⟩)))
    · rw [if_neg c]
      obtain ⟨s4, s5⟩ := s3 c
      rw [hz] at s4 s5
      exact brT' rfl ((m_fails hE (by omega) (f := 2) q11 t9 h12 t6 (by decide) (by decide) s4 s5).mono (fun h' x => brF' x.2.ne ⟨x.1, lw, by omega, hlh, fun c => absurd c x.2.ne, Or.inl x.2⟩))
theorem m_tb (hE : EOk E) (hL : 5 ≤ L) (t : mTp h T n) {k lw hi : Nat} {s s1 : Sr} {s' : Nat → Sr} (hk : k ≤ 12) (hlh : lw ≤ hi) (hh : hi ≤ 9999) (sk : stW T n k s s1) (st : stN T n lw hi s1 s') (J : mJ T n Z lo s h) : ConI E L m_M_takesBehind 74 [.int (nI k), .int (nI lw), .int (nI hi)] h (tkP T n Z lo lw hi s' h) := by
  refine B_M_takesBehind hE (by omega) ((m_must hE (by omega) t hk sk J).mono (fun h1 x => ?_))
  obtain ⟨x1, x2, x3⟩ := x
  refine (m_takes hE (by omega) (x1.tp t) hlh hh st (x3.wk (Nat.le_succ _))).mono (fun y h2 z => ?_)
  obtain ⟨z1, v, z2, z3, z4, z5⟩ := z
  exact ⟨x1.trans z1, v, z2, z3, fun c => ⟨x2 (z4 c).1, (z4 c).2⟩, z5⟩
/-! the fresh store -/
def fVt (h : Hp) (tv : Nat → Nat → Nat) : Prop := ∀ i k, i < 24 → k < 7 → h.2.1 78 (3 + 7 * i + k) = nI (tv i k)
def fV (h : Hp) (nB nT l : Nat) (tv : Nat → Nat → Nat) : Prop := h.2.1 78 0 = nI nB ∧ h.2.1 78 1 = nI nT ∧ h.2.1 78 2 = nI l ∧ fVt h tv
theorem fVt.up {tv : Nat → Nat → Nat} (f : fVt h tv) {i k v : Nat} (hk : k < 7) : fVt (sA h 78 (3 + 7 * i + k) (nI v)) (rUp tv i k v) := by
  intro x y hx hy
  rw [sA_A, if_pos rfl]
  unfold rUp
  by_cases q : x = i ∧ y = k
  · rw [if_pos q, if_pos (by omega)]
  · rw [if_neg q, if_neg (by omega)]
    exact f x y hx hy
theorem rUp_comm (tv : Nat → Nat → Nat) {i k k' v v' : Nat} (hk : k ≠ k') : rUp (rUp tv i k v) i k' v' = rUp (rUp tv i k' v') i k v := by
  funext x y
  unfold rUp
  by_cases q : x = i ∧ y = k
  · rw [if_neg (show ¬ (x = i ∧ y = k') by omega), if_pos q, if_pos q]
  · rw [if_neg q, if_neg q]
theorem rUp_o {tv : Nat → Nat → Nat} {i k v x : Nat} (h : x ≠ i) (y : Nat) : rUp tv i k v x y = tv x y := if_neg (fun q => h q.1)
theorem rUp_k {tv : Nat → Nat → Nat} {i k v x y : Nat} (h : y ≠ k) : rUp tv i k v x y = tv x y := if_neg (fun q => h q.2)
theorem rUp_i {tv : Nat → Nat → Nat} {i k v : Nat} : rUp tv i k v i k = v := if_pos ⟨rfl, rfl⟩
theorem tvB_box {nB nT : Nat} {tv : Nat → Nat → Nat} (B : tvB nB nT tv) (hb : nB < 8) {v1 v2 v3 v4 v5 v6 : Nat} (b1 : 1 ≤ v1 ∧ v1 ≤ 99) (b2 : 1 ≤ v2 ∧ v2 ≤ 99) (b3 : 1 ≤ v3 ∧ v3 ≤ 99) (b4 : 1 ≤ v4 ∧ v4 ≤ 64) (b5 : 1 ≤ v5 ∧ v5 ≤ 99) (b6 : 1 ≤ v6 ∧ v6 ≤ 9999) : tvB (nB + 1) nT (rUp (rUp (rUp (rUp (rUp (rUp tv nB 0 v1) nB 1 v2) nB 4 v3) nB 5 v4) nB 2 v5) nB 6 v6) := by
  intro i hi
  obtain ⟨c1, c2, c3, c4, c5⟩ := B i hi
  by_cases e : i = nB
  · subst e
    have z := c5 (fun q => by unfold isIt at q; omega)
    have e0 : rUp (rUp (rUp (rUp (rUp (rUp tv i 0 v1) i 1 v2) i 4 v3) i 5 v4) i 2 v5) i 6 v6 i 0 = v1 := by
      rw [rUp_k (by decide), rUp_k (by decide), rUp_k (by decide), rUp_k (by decide), rUp_k (by decide), rUp_i]
    have e1 : rUp (rUp (rUp (rUp (rUp (rUp tv i 0 v1) i 1 v2) i 4 v3) i 5 v4) i 2 v5) i 6 v6 i 1 = v2 := by
      rw [rUp_k (by decide), rUp_k (by decide), rUp_k (by decide), rUp_k (by decide), rUp_i]
    have e4 : rUp (rUp (rUp (rUp (rUp (rUp tv i 0 v1) i 1 v2) i 4 v3) i 5 v4) i 2 v5) i 6 v6 i 4 = v3 := by
      rw [rUp_k (by decide), rUp_k (by decide), rUp_k (by decide), rUp_i]
    have e5 : rUp (rUp (rUp (rUp (rUp (rUp tv i 0 v1) i 1 v2) i 4 v3) i 5 v4) i 2 v5) i 6 v6 i 5 = v4 := by
      rw [rUp_k (by decide), rUp_k (by decide), rUp_i]
    have e2 : rUp (rUp (rUp (rUp (rUp (rUp tv i 0 v1) i 1 v2) i 4 v3) i 5 v4) i 2 v5) i 6 v6 i 2 = v5 := by
      rw [rUp_k (by decide), rUp_i]
    have e6 : rUp (rUp (rUp (rUp (rUp (rUp tv i 0 v1) i 1 v2) i 4 v3) i 5 v4) i 2 v5) i 6 v6 i 6 = v6 := rUp_i
    have e3 : rUp (rUp (rUp (rUp (rUp (rUp tv i 0 v1) i 1 v2) i 4 v3) i 5 v4) i 2 v5) i 6 v6 i 3 = 0 := by
      rw [rUp_k (by decide), rUp_k (by decide), rUp_k (by decide), rUp_k (by decide), rUp_k (by decide), rUp_k (by decide), z 3 (by decide)]
    rw [e0, e1, e2, e3, e4, e5, e6]
    refine ⟨by omega, fun _ => ⟨rfl, by omega⟩, fun q => by omega, fun _ => ⟨by omega, by omega, by omega, fun _ => by omega⟩, fun q => ?_⟩
    exact absurd (Or.inl (Nat.lt_succ_self i)) q
  · have ev : ∀ k, rUp (rUp (rUp (rUp (rUp (rUp tv nB 0 v1) nB 1 v2) nB 4 v3) nB 5 v4) nB 2 v5) nB 6 v6 i k = tv i k := fun k => by
      rw [rUp_o e, rUp_o e, rUp_o e, rUp_o e, rUp_o e, rUp_o e]
    have it : isIt (nB + 1) nT i ↔ isIt nB nT i := by unfold isIt; omega
    simp only [ev, it]
    exact ⟨c1, c2, c3, c4, c5⟩
theorem tvB_thing {nB nT : Nat} {tv : Nat → Nat → Nat} (B : tvB nB nT tv) (h8 : nB ≤ 8) (hb : nT < 16) {v1 v2 v3 v4 : Nat} (b1 : 1 ≤ v1 ∧ v1 ≤ 999) (b2 : 1 ≤ v2 ∧ v2 ≤ 99) (b3 : 1 ≤ v3 ∧ v3 ≤ 99) (b4 : v4 ≤ 99) : tvB nB (nT + 1) (rUp (rUp (rUp (rUp tv (8 + nT) 0 v1) (8 + nT) 1 v2) (8 + nT) 2 v3) (8 + nT) 3 v4) := by
  intro i hi
  obtain ⟨c1, c2, c3, c4, c5⟩ := B i hi
  by_cases e : i = 8 + nT
  · have z := c5 (fun q => by unfold isIt at q; omega)
    rw [← e]
    have e0 : rUp (rUp (rUp (rUp tv i 0 v1) i 1 v2) i 2 v3) i 3 v4 i 0 = v1 := by
      rw [rUp_k (by decide), rUp_k (by decide), rUp_k (by decide), rUp_i]
    have e1 : rUp (rUp (rUp (rUp tv i 0 v1) i 1 v2) i 2 v3) i 3 v4 i 1 = v2 := by
      rw [rUp_k (by decide), rUp_k (by decide), rUp_i]
    have e2 : rUp (rUp (rUp (rUp tv i 0 v1) i 1 v2) i 2 v3) i 3 v4 i 2 = v3 := by
      rw [rUp_k (by decide), rUp_i]
    have e3 : rUp (rUp (rUp (rUp tv i 0 v1) i 1 v2) i 2 v3) i 3 v4 i 3 = v4 := rUp_i
    have e4 : rUp (rUp (rUp (rUp tv i 0 v1) i 1 v2) i 2 v3) i 3 v4 i 4 = 0 := by
      rw [rUp_k (by decide), rUp_k (by decide), rUp_k (by decide), rUp_k (by decide), z 4 (by decide)]
    have e5 : rUp (rUp (rUp (rUp tv i 0 v1) i 1 v2) i 2 v3) i 3 v4 i 5 = 0 := by
      rw [rUp_k (by decide), rUp_k (by decide), rUp_k (by decide), rUp_k (by decide), z 5 (by decide)]
    have e6 : rUp (rUp (rUp (rUp tv i 0 v1) i 1 v2) i 2 v3) i 3 v4 i 6 = 0 := by
      rw [rUp_k (by decide), rUp_k (by decide), rUp_k (by decide), rUp_k (by decide), z 6 (by decide)]
    rw [e0, e1, e2, e3, e4, e5, e6]
    refine ⟨by omega, fun q => by omega, fun q => ⟨rfl, rfl, rfl⟩, fun _ => ⟨by omega, by omega, by omega, fun q => by omega⟩, fun q => ?_⟩
    exact absurd (Or.inr ⟨by omega, by omega⟩) q
  · have ev : ∀ k, rUp (rUp (rUp (rUp tv (8 + nT) 0 v1) (8 + nT) 1 v2) (8 + nT) 2 v3) (8 + nT) 3 v4 i k = tv i k := fun k => by
      rw [rUp_o e, rUp_o e, rUp_o e, rUp_o e]
    have it : isIt nB (nT + 1) i ↔ isIt nB nT i := by unfold isIt; omega
    simp only [ev, it]
    exact ⟨c1, c2, c3, c4, c5⟩
end LineM
