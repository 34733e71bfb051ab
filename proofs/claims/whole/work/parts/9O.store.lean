/-! ===== store: the reference ===== -/
section StoreM
variable {E : EnvX} {L : Nat} {h h0 : Hp} {T : Nat → Nat} {n : Nat} {Z : Zr}
theorem mG.a {lo : Nat} {s : Sr} {k : Nat} {v : Int32} (q : mG T n Z lo s h) : mG T n Z lo s (sA h 78 k v) := q
theorem mXF.a {k : Nat} {v : Int32} (q : mXF h Z) : mXF (sA h 78 k v) Z := q
theorem semi1 {nr nB nT : Nat} {tv : Nat → Nat → Nat} : stW T n 10 (1, 30, nr, nB, nT, tv) (0, 0, 0, nB + 1, nT, tv) := stW_semi (ln := 1) (by decide) (by decide) (fun T a l => rBw_no (by decide) T a l)
theorem semi2 {nr nB nT : Nat} {tv : Nat → Nat → Nat} : stW T n 10 (2, 22, nr, nB, nT, tv) (0, 0, 0, nB, nT + 1, tv) := stW_semi (ln := 2) (by decide) (by decide) (fun T a l => rBw_no (by decide) T a l)
def sLn (h : Hp) : Hp := sA h 78 (2 : Int32).toNatClampNeg ((h.2.1 78 (2 : Int32).toNatClampNeg) + 1)
theorem fV.ln {nB nT l : Nat} {tv : Nat → Nat → Nat} (V : fV h nB nT l tv) : fV (sLn h) nB nT (l + 1) tv := by
  obtain ⟨V0, V1, V2, V3⟩ := V
  refine ⟨?_, ?_, ?_, fun i k hi hk => ?_⟩
  · show (sA h 78 2 _).2.1 78 0 = _
    rw [sA_i, if_neg (by omega), V0]
  · show (sA h 78 2 _).2.1 78 1 = _
    rw [sA_i, if_neg (by omega), V1]
  · show (sA h 78 2 _).2.1 78 2 = _
    rw [sA_i, if_pos rfl]
    show h.2.1 78 2 + 1 = _
    rw [V2, nI_1]
  · show (sA h 78 2 _).2.1 78 _ = _
    rw [sA_i, if_neg (by omega)]
    exact V3 i k hi hk
theorem fV.keep2 {nB nT l : Nat} {tv : Nat → Nat → Nat} {h1 : Hp} (V : fV h nB nT l tv) (e : h1.2.1 78 = h.2.1 78) : fV h1 nB nT l tv := by
  unfold fV fVt
  rw [e]
  exact V
theorem m_loop (hE : EOk E) (hL : 9 ≤ L) (t : mTp h0 T n) {post : Int32 → Hp → Prop}
    (HF : ∀ h', mF2 h0 h' → mXF h' Z → post ((-30) - nI Z.1) (sI (sI h' 74 13 (nI Z.1)) 74 14 (nI Z.2.1)))
    (HG : ∀ h' nB nT tv, mF2 h0 h' → h'.1 74 11 = 0 → nB ≤ 8 → nT ≤ 16 → tvB nB nT tv → fV h' nB nT (nB + nT) tv → Z = (0, 0, nB, nT, tv) → at_M_store_183 E L (sI (sI h' 74 13 0) 74 14 (-1)) post 0) :
    ∀ f h, mF2 h0 h → (mXF h Z ∨ ∃ nB nT tv a, n < a + f ∧ nB ≤ 8 ∧ nT ≤ 16 ∧ tvB nB nT tv ∧ fV h nB nT (nB + nT) tv ∧ mG T n Z a (0, 0, 0, nB, nT, tv) h) → at_M_store_68 E L h post := by
  have bad : ∀ h, mF2 h0 h → mXF h Z → at_M_store_68 E L h post := by
    intro h fr q
    have w := HF h fr q
    rw [← q.2.2.1, ← q.2.2.2] at w
    exact B_M_store_68 (brF' q.ne (brF' q.ne (brF q.ne w)))
  intro f
  induction f with
  | zero =>
    intro h fr q
    rcases q with q | ⟨nB, nT, tv, a, ha, -, -, -, -, q11, a', e, κ, v, hlo, tk, -⟩
    · exact bad h fr q
    · have := tk.2.2.2.2.1
      omega
  | succ f ih =>
    intro h fr q
    rcases q with q | ⟨nB, nT, tv, a0, ha, h8, h16, B, V, q11, a, e, κ, v, hlo, tk, hz⟩
    · exact bad h fr q
    · have tt := fr.tp t
      have h12 := tok_12 tk.2.2.2.2
      obtain ⟨l1, l2, l3, l4⟩ := st_line (sp := 0) (nr := 0) (nB := nB) (nT := nT) (tv := tv) tk.2.2.2.2
      have i2 : inI 78 2 := in78 (k := 2) (by decide)
      refine B_M_store_68 (brT' q11 ?_)
      by_cases c11 : κ = 11
      · refine brT (by rw [tk.2.2.1, c11]; rfl) (brT' q11 (brT q11 ?_))
        rw [q11]
        exact HG h nB nT tv fr q11 h8 h16 B V (hz.symm.trans (l3 c11))
      · refine brF (by rw [tk.2.2.1, show (11 : Int32) = nI 11 from rfl, nIe (by omega) (by decide)]; exact c11) ?_
        have is0 : RdI E (L - 1) m_M_is 74 [.int 0] h (if κ = 0 then 1 else 0) := m_is_ok hE (by omega) (k := 0) q11 tk.2.2.1 h12 (by decide)
        have is6 : RdI E (L - 1) m_M_is 74 [.int 6] h (if κ = 6 then 1 else 0) := m_is_ok hE (by omega) (k := 6) q11 tk.2.2.1 h12 (by decide)
        refine is0.use ?_
        /- behind a line that failed -/
        have behind : ∀ h2, mF2 h0 h2 → mXF h2 Z → ConV E (L - 1) m_M_must 74 [.int 10] h2 (fun h9 => (inI 78 2 ∧ (inI 78 2 ∧ at_M_store_68 E L (sLn h9) post))) := by
          intro h2 f2 q2
          have w := m_must hE (L := L - 1) (by omega) (f2.tp t) (Z := Z) (lo := 0) (k := 10) (by decide) (semi1 (T := T) (n := n) (nr := 0) (nB := 0) (nT := 0) (tv := fun _ _ => 0)) (Or.inl q2)
          refine w.mono (fun h9 x => ⟨i2, i2, ?_⟩)
          obtain ⟨x1, x2, x3⟩ := x
          have q9 : mXF h9 Z := x3.elim id (fun g => absurd (x2 g.1) q2.ne)
          exact bad _ ((f2.trans x1.two).a) q9.a
        by_cases c0 : κ = 0
        · rw [if_pos c0]
          rw [c0] at tk
          refine brF (by decide) ((m_readBox hE (by omega) tt V B h8 h16 q11 tk hz).mono (fun h2 x => ?_))
          obtain ⟨f2, x | ⟨tv', b1, b2, b3, b4, b5⟩⟩ := x
          · exact behind h2 (fr.trans f2) x
          · have fr2 := fr.trans f2
            refine (m_must hE (by omega) (fr2.tp t) (k := 10) (by decide) semi1 (Or.inr b5)).mono (fun h9 x => ⟨i2, i2, ?_⟩)
            obtain ⟨x1, x2, x3⟩ := x
            refine ih _ ((fr2.trans x1.two).a) (x3.elim (fun q => Or.inl q.a) (fun g => Or.inr ⟨nB + 1, nT, tv', a + 1, by omega, b1, b2, b3, ?_, g.a⟩))
            have := (b4.keep x1).ln
            rw [show nB + 1 + nT = nB + nT + 1 by omega]
            exact this
        · rw [if_neg c0]
          refine brT rfl (is6.use ?_)
          by_cases c6 : κ = 6
          · rw [if_pos c6]
            rw [c6] at tk
            refine brF (by decide) ((m_readThing hE (by omega) tt V B h8 h16 q11 tk hz).mono (fun h2 x => ?_))
            obtain ⟨f2, x | ⟨tv', b1, b2, b3, b4, b5⟩⟩ := x
            · exact behind h2 (fr.trans f2) x
            · have fr2 := fr.trans f2
              refine (m_must hE (by omega) (fr2.tp t) (k := 10) (by decide) semi2 (Or.inr b5)).mono (fun h9 x => ⟨i2, i2, ?_⟩)
              obtain ⟨x1, x2, x3⟩ := x
              exact ih _ ((fr2.trans x1.two).a) (x3.elim (fun q => Or.inl q.a) (fun g => Or.inr ⟨nB, nT + 1, tv', a + 1, by omega, b1, b2, b3, (b4.keep x1).ln, g.a⟩))
          · rw [if_neg c6]
            obtain ⟨l5, l6⟩ := l4 c0 c6 c11
            rw [hz] at l5 l6
            exact brT rfl ((m_fails hE (by omega) (f := 2) q11 tk.2.2.1 h12 tk.1 (by decide) (by decide) l5 l6).mono (fun h2 x => behind h2 (fr.trans x.1.two) x.2))
theorem m_copy (hE : EOk E) (hL : 1 ≤ L) {post : Int32 → Hp → Prop} (H : ∀ h3, EqO (fun q => q = 75) h h3 → (∀ j, j < 171 → h3.2.1 75 j = h.2.1 78 j) → (∀ j, 171 ≤ j → j < 220 → h3.2.1 75 j = 0) → (∀ j, 220 ≤ j → h3.2.1 75 j = h.2.1 75 j) → post (h3.2.1 75 2) h3) : at_M_store_183 E L h post 0 := by
  have loop : ∀ m k, m + k = 220 → ∀ h3, EqO (fun q => q = 75) h h3 → (∀ j, j < k → h3.2.1 75 j = if j < 171 then h.2.1 78 j else 0) → (∀ j, 220 ≤ j → h3.2.1 75 j = h.2.1 75 j) → at_M_store_183 E L h3 post (nI k) := by
    intro m
    induction m with
    | zero =>
      intro k hk h3 f f1 f2
      rw [show k = 220 by omega] at f1 ⊢
      refine B_M_store_183 (brT (nEnd 220) ⟨in75 (k := 2) (by decide), H h3 f (fun j hj => ?_) (fun j h1 h2 => ?_) f2⟩)
      · rw [f1 j (by omega), if_pos hj]
      · rw [f1 j (by omega), if_neg (by omega)]
    | succ m ih =>
      intro k hk h3 f f1 f2
      refine B_M_store_183 (brF (nG 220 (by omega)) ?_)
      rw [nIc (by omega), nI_1, show (171 : Int32) = nI 171 from rfl, nIl (by decide) (by omega)]
      refine ⟨fun c => ⟨in75 (by omega), ih (k + 1) (by omega) _ (f.trans (EqO.sA rfl)) (fun j hj => ?_) (fun j hj => ?_)⟩, fun c => ⟨in78 (by omega), in75 (by omega), ih (k + 1) (by omega) _ (f.trans (EqO.sA rfl)) (fun j hj => ?_) (fun j hj => ?_)⟩⟩
      · rw [sA_i]
        by_cases e : j = k
        · rw [if_pos e, if_neg (by omega)]
        · rw [if_neg e]; exact f1 j (by omega)
      · rw [sA_i, if_neg (by omega)]; exact f2 j hj
      · rw [sA_i]
        by_cases e : j = k
        · rw [if_pos e, if_pos (by omega), (f 78 (by decide)).2.1, e]
        · rw [if_neg e]; exact f1 j (by omega)
      · rw [sA_i, if_neg (by omega)]; exact f2 j hj
  exact loop 220 0 (by omega) h EqO.rfl' (fun j hj => absurd hj (Nat.not_lt_zero j)) (fun _ _ => rfl)
/-- how the reference's storing ends -/
def stP (Z : Zr) (h : Hp) (y : Int32) (h2 : Hp) : Prop := EqO (fun q => q = 74 ∨ q = 75 ∨ q = 78) h h2 ∧ h2.1 74 5 = 0 ∧ (∀ j, 220 ≤ j → h2.2.1 75 j = h.2.1 75 j) ∧
  ((Z.1 ≠ 0 ∧ y = (-30) - nI Z.1 ∧ h2.1 74 13 = nI Z.1 ∧ h2.1 74 14 = nI Z.2.1 ∧ h2.2.1 75 = h.2.1 75) ∨
   ∃ nB nT tv, Z = (0, 0, nB, nT, tv) ∧ tvB nB nT tv ∧ y = nI (nB + nT) ∧ h2.1 74 13 = 0 ∧ h2.1 74 14 = -1 ∧ MsV h2 0 nB nT tv (fun _ => 0) (fun _ => 0) 0)
theorem tvB0 : tvB 0 0 (fun _ _ => 0) := fun i hi => ⟨⟨Nat.zero_le _, Nat.zero_le _, Nat.zero_le _, Nat.zero_le _, Nat.zero_le _, Nat.zero_le _, Nat.zero_le _⟩, fun _ => ⟨rfl, Nat.zero_le _⟩, fun _ => ⟨rfl, rfl, rfl⟩, fun q => by unfold isIt at q; omega, fun _ _ _ => rfl⟩
theorem tvB.le {nB nT : Nat} {tv : Nat → Nat → Nat} (B : tvB nB nT tv) {i k : Nat} (hi : i < 24) (hk : k < 7) : tv i k ≤ 9999 := by
  obtain ⟨⟨a, b, c, d, e, f, g⟩, -⟩ := B i hi
  rcases (show k = 0 ∨ k = 1 ∨ k = 2 ∨ k = 3 ∨ k = 4 ∨ k = 5 ∨ k = 6 by omega) with rfl | rfl | rfl | rfl | rfl | rfl | rfl <;> omega
theorem m_store (hE : EOk E) (hL : 10 ≤ L) {len : Nat} (hlen : len ≤ 900) (h5 : h.1 74 5 = nI len) (hn : n ≤ len) (ht : ∀ p, p < len → h.2.1 77 p = nI (T p) ∧ T p < 256) : ConI E L m_M_store 74 [.int (nI n)] h (stP (rRn T n n 0 0 0 0 0 0 (fun _ _ => 0)) h) := by
  refine B_M_store hE (by omega) ?_
  have w := m_w_yes (h := sI h 74 0 0) hE (show 1 ≤ L - 1 by omega) (Nat.zero_le n) hn (by omega)
  have e5 : (sI h 74 0 0).1 74 5 = nI len := h5
  rw [e5, nI_l (n := len) (by omega)]
  refine w.use (brF' (by decide) ?_)
  generalize hZ : rRn T n n 0 0 0 0 0 0 (fun _ _ => 0) = Z
  have F0 : EqO (fun q => q = 74 ∨ q = 78) h (sI (sI (sI (sI (sI h 74 0 0) 74 8 (nI n)) 74 5 0) 74 7 0) 74 11 0) := (EqO.sI (Or.inl rfl)).trans ((EqO.sI (Or.inl rfl)).trans ((EqO.sI (Or.inl rfl)).trans ((EqO.sI (Or.inl rfl)).trans (EqO.sI (Or.inl rfl)))))
  have loop : ∀ m k, m + k = 171 → ∀ h1, EqO (fun q => q = 74 ∨ q = 78) h h1 → h1.1 74 8 = nI n → h1.1 74 5 = 0 → h1.1 74 7 = 0 → h1.1 74 11 = 0 → (∀ j, j < k → h1.2.1 78 j = 0) → at_M_store_44 E L h1 (stP Z h) (nI k) := by
    intro m
    induction m with
    | zero =>
      intro k hk h1 f e8 e5 e7 e11 ez
      rw [show k = 171 by omega] at ez ⊢
      refine B_M_store_44 (brT (nEnd 171) ?_)
      have t : mTp h1 T n := by
        refine ⟨by omega, e8, fun p hp => ?_⟩
        rw [(f 77 (by omega)).2.1]; exact ht p (by omega)
      have c0 : rCl T n 0 := ⟨fun q => absurd q.2 (show ¬ rLt 0 = true by decide), fun q => absurd q.2 (show ¬ rDg 0 = true by decide)⟩
      refine (m_next hE (by omega) t (p := 0) e7 (Nat.zero_le _) c0).mono (fun h2 x => ?_)
      obtain ⟨x1, x2, a, e, κ, v, x3, x4, x5⟩ := x
      refine m_loop hE (by omega) t (Z := Z) (fun h3 f3 q3 => ?_) (fun h3 nB nT tv f3 q11 h8 h16 B V hz => ?_) (n + 1) h2 x1.two (Or.inr ⟨0, 0, fun _ _ => 0, 0, by omega, by decide, by decide, tvB0, ?_, x2.trans e11, a, e, κ, v, Nat.zero_le _, x5, ?_⟩)
      · refine ⟨(f.wk (fun q z => by omega)).trans ((f3.1.wk (fun q z => by omega)).trans ((EqO.sI (Or.inl rfl)).trans (EqO.sI (Or.inl rfl)))), ?_, fun j hj => ?_, Or.inl ⟨q3.1, rfl, rfl, rfl, ?_⟩⟩
        · exact f3.2.2.trans e5
        · show h3.2.1 75 j = _
          rw [(f3.1 75 (by omega)).2.1, (f 75 (by omega)).2.1]
        · show h3.2.1 75 = _
          rw [(f3.1 75 (by omega)).2.1, (f 75 (by omega)).2.1]
      · refine m_copy hE (by omega) (fun h4 g1 g2 g3 g4 => ?_)
        have G : EqO (fun q => q = 74 ∨ q = 75 ∨ q = 78) h h4 := (f.wk (fun q z => by omega)).trans ((f3.1.wk (fun q z => by omega)).trans ((EqO.sI (Or.inl rfl)).trans ((EqO.sI (Or.inl rfl)).trans (g1.wk (fun q z => by omega)))))
        obtain ⟨V0, V1, V2, V3⟩ := V
        have v0 : ∀ j, j < 171 → h4.2.1 75 j = h3.2.1 78 j := g2
        refine ⟨G, ?_, fun j hj => ?_, Or.inr ⟨nB, nT, tv, hz, B, ?_, ?_, ?_, ⟨h8, h16, by decide⟩, ⟨?_, ?_, ?_, ?_⟩, fun i k hi hk => ⟨?_, B.le hi hk⟩, fun i hi => ⟨?_, Nat.zero_le _⟩, fun i hi => ⟨?_, show 0 < 1073741824 by decide⟩, fun i hi _ => rfl⟩⟩
        · rw [(g1 74 (by decide)).1]
          exact f3.2.2.trans e5
        · rw [g4 j hj]
          show h3.2.1 75 j = _
          rw [(f3.1 75 (by omega)).2.1, (f 75 (by omega)).2.1]
        · rw [v0 2 (by decide)]; exact V2
        · rw [(g1 74 (by decide)).1]; rfl
        · rw [(g1 74 (by decide)).1]; rfl
        · rw [v0 0 (by decide)]; exact V0
        · rw [Nat.zero_add, v0 1 (by decide)]; exact V1
        · rw [Nat.zero_add, v0 2 (by decide)]; exact V2
        · rw [Nat.zero_add, g3 219 (by decide) (by decide)]; rfl
        · rw [Nat.zero_add, v0 _ (by omega)]; exact V3 i k hi hk
        · rw [Nat.zero_add, g3 _ (by omega) (by omega)]; rfl
        · rw [Nat.zero_add, g3 _ (by omega) (by omega)]; rfl
      · refine fV.keep2 (h := h1) ⟨ez 0 (by decide), ez 1 (by decide), ez 2 (by decide), fun i k hi hk => ez _ (by omega)⟩ (x1.1 78 (by decide)).2.1
      · rw [← hZ, ← rQ_to (p := 0) (q := a) x3 x5.2.2.2.2.1 x4]; rfl
    | succ m ih =>
      intro k hk h1 f e8 e5 e7 e11 ez
      refine B_M_store_44 (brF (nG 171 (by omega)) ⟨in78 (by omega), ?_⟩)
      rw [nIc (by omega), nI_1]
      refine ih (k + 1) (by omega) _ (f.trans (EqO.sA (Or.inr rfl))) e8 e5 e7 e11 (fun j hj => ?_)
      rw [sA_i]
      by_cases e : j = k
      · rw [if_pos e]
      · rw [if_neg e]; exact ez j (by omega)
  exact loop 171 0 (by omega) _ F0 rfl rfl rfl rfl (fun j hj => absurd hj (Nat.not_lt_zero j))
end StoreM
