/-! ===== the class's reader: words, the whole text ===== -/
section ReadX3
variable {E : EnvX} {L : Nat} {h h0 : Hp} {T : Nat → Nat} {n : Nat} {ln sp nr nB nT : Nat} {tv : Nat → Nat → Nat}
theorem StV.k9 (S : StV h 11 nB nT tv) {k : Nat} {v : Int32} : StV (sI h 9 k v) 11 nB nT tv := S.keep (F := fun q => q = 9) (EqO.sI rfl) (by decide) (by decide)
theorem rd_line (hE : EOk E) (hL : 4 ≤ L) (t : rTp h0 T n) (fr : rFr h0 h) (S : rXS h 0 sp nr nB nT tv) {g p : Nat} (hp : p < n) {Z : Zr} (hz : Z = if rBw T n 1 (n + 1) 0 p = 0 then if rBw T n 2 (n + 1) 0 p = 0 then (2, p, nB, nT, tv) else if nT < 16 then rRn T n g (p + 1) 2 (rBw T n 2 (n + 1) 0 p - 1) 0 nB nT tv else (4, p, nB, nT, tv) else if nB < 8 then rRn T n g (p + 1) 1 (rBw T n 1 (n + 1) 0 p - 1) 0 nB nT tv else (4, p, nB, nT, tv)) : ConV E L m_Reader_beginLine 9 [.int (nI p)] h (fun h' => rFr h0 h' ∧ ((h'.1 9 4 = 0 ∧ h'.1 9 8 = -1 ∧ Z.1 = 2 ∧ Z.2.1 = p) ∨ rXF h' Z ∨ (h'.1 9 4 = 0 ∧ ¬ h'.1 9 8 = -1 ∧ rXP h0 T n g (p + 1) Z h'))) := by
  obtain ⟨s1, s2, s3, s4, s5, s6, s7, s8, s9, s10⟩ := S
  have fr1 : rFr h0 (sI h 9 9 0) := fr.s (by decide) (by decide)
  have w1 : RdI E (L - 1) m_Reader_behindWord 9 [.ref 951, .int 0, .int (nI p)] (sI h 9 9 0) (bx (rBw T n 1 (n + 1) 0 p)) := rd_behind hE (by omega) (fr1.tp t) (ln := 1) (s := 0) (by decide) (by decide) (by omega)
  refine B_Reader_beginLine hE (by omega) (w1.use ?_)
  have b1 := (rBw_le (T := T) (n := n) (ln := 1) (n + 1) 0 p (by decide)).1
  by_cases c1 : rBw T n 1 (n + 1) 0 p = 0
  · rw [if_pos c1] at hz
    rw [c1, bx_0]
    refine brT (show (sI (sI h 9 9 0) 9 8 (-1)).1 9 8 = -1 from rfl) (B_Reader_beginLine_31 ⟨Or.inl rfl, brT' (show (sI (sI (sI h 9 9 0) 9 8 (-1)) 9 7 0).1 9 7 = 0 from rfl) ?_⟩)
    have fr2 : rFr h0 (sI (sI (sI h 9 9 0) 9 8 (-1)) 9 7 0) := (fr1.s (by decide) (by decide)).s (by decide) (by decide)
    have w2 : RdI E (L - 1) m_Reader_behindWord 9 [.ref 952, .int 0, .int (nI p)] (sI (sI (sI h 9 9 0) 9 8 (-1)) 9 7 0) (bx (rBw T n 2 (n + 1) 0 p)) := rd_behind hE (by omega) (fr2.tp t) (ln := 2) (s := 0) (by decide) (by decide) (by omega)
    refine w2.use ?_
    have b2 := (rBw_le (T := T) (n := n) (ln := 2) (n + 1) 0 p (by decide)).1
    by_cases c2 : rBw T n 2 (n + 1) 0 p = 0
    · rw [if_pos c2] at hz
      rw [c2, bx_0]
      exact brT' (show (sI (sI (sI (sI h 9 9 0) 9 8 (-1)) 9 7 0) 9 8 (-1)).1 9 8 = -1 from rfl) ⟨fr2.s (by decide) (by decide), Or.inl ⟨s1, rfl, by rw [hz], by rw [hz]⟩⟩
    · rw [if_neg c2] at hz
      obtain ⟨k, hk⟩ : ∃ k, rBw T n 2 (n + 1) 0 p = k + 1 := ⟨_, (Nat.succ_pred_eq_of_ne_zero c2).symm⟩
      rw [hk, Nat.add_sub_cancel] at hz
      rw [hk, bx_S]
      have n1 : ¬ nI k = -1 := nIm1 (by omega)
      refine brF' n1 (brT (show (0 : Int32) = 0 from rfl) ⟨⟨by decide, by decide⟩, ?_⟩)
      have S3 : StV (sI (sI (sI (sI (sI h 9 9 0) 9 8 (-1)) 9 7 0) 9 8 (nI k)) 9 6 (nI 952)) 11 nB nT tv := s5.k9.k9.k9.k9.k9
      have fr3 : rFr h0 (sI (sI (sI (sI (sI h 9 9 0) 9 8 (-1)) 9 7 0) 9 8 (nI k)) 9 6 (nI 952)) := (fr2.s (by decide) (by decide)).s (by decide) (by decide)
      refine (store_full0 hE (by omega) S3).use ?_
      by_cases c3 : nT < 16
      · rw [if_pos c3] at hz ⊢
        exact brT rfl ⟨fr3, Or.inr (Or.inr ⟨s1, n1, fr3, Or.inl ⟨2, k, 0, nB, nT, tv, ⟨s1, s2, rfl, fun _ => ⟨rfl, rfl, rfl⟩, S3, by decide, Nat.zero_le _, by omega, fun q => absurd q (by decide), fun _ => c3⟩, hz.symm⟩⟩)⟩
      · rw [if_neg c3] at hz ⊢
        exact brF (by decide) ((rd_bl hE (by omega) fr3 (f := 4) (by decide) (by decide) (by rw [hz]) (by rw [hz])).mono (fun _ q => ⟨q.1, Or.inr (Or.inl q.2)⟩))
  · rw [if_neg c1] at hz
    obtain ⟨k, hk⟩ : ∃ k, rBw T n 1 (n + 1) 0 p = k + 1 := ⟨_, (Nat.succ_pred_eq_of_ne_zero c1).symm⟩
    rw [hk, Nat.add_sub_cancel] at hz
    rw [hk, bx_S]
    have n1 : ¬ nI k = -1 := nIm1 (by omega)
    refine brF n1 (B_Reader_beginLine_31 ⟨Or.inr rfl, brF' (show ¬ (1 : Int32) = 0 by decide) (brF' n1 (brF (show ¬ (1 : Int32) = 0 by decide) ⟨⟨by decide, by decide⟩, ?_⟩))⟩)
    have S3 : StV (sI (sI (sI (sI h 9 9 0) 9 8 (nI k)) 9 7 1) 9 6 (nI 951)) 11 nB nT tv := s5.k9.k9.k9.k9
    have fr3 : rFr h0 (sI (sI (sI (sI h 9 9 0) 9 8 (nI k)) 9 7 1) 9 6 (nI 951)) := ((fr1.s (by decide) (by decide)).s (by decide) (by decide)).s (by decide) (by decide)
    refine (store_full1 hE (by omega) S3).use ?_
    by_cases c3 : nB < 8
    · rw [if_pos c3] at hz ⊢
      exact brT rfl ⟨fr3, Or.inr (Or.inr ⟨s1, n1, fr3, Or.inl ⟨1, k, 0, nB, nT, tv, ⟨s1, s2, rfl, fun _ => ⟨rfl, rfl, rfl⟩, S3, by decide, Nat.zero_le _, by omega, fun _ => c3, fun q => absurd q (by decide)⟩, hz.symm⟩⟩)⟩
    · rw [if_neg c3] at hz ⊢
      exact brF (by decide) ((rd_bl hE (by omega) fr3 (f := 4) (by decide) (by decide) (by rw [hz]) (by rw [hz])).mono (fun _ q => ⟨q.1, Or.inr (Or.inl q.2)⟩))
theorem rd_word (hE : EOk E) (hL : 6 ≤ L) (t : rTp h0 T n) (fr : rFr h0 h) (S : rXS h ln sp nr nB nT tv) {g p : Nat} (hp : p < n) {Z : Zr} (hz : Z = if ln = 0 then if rBw T n 1 (n + 1) 0 p = 0 then if rBw T n 2 (n + 1) 0 p = 0 then (2, p, nB, nT, tv) else if nT < 16 then rRn T n g (p + 1) 2 (rBw T n 2 (n + 1) 0 p - 1) 0 nB nT tv else (4, p, nB, nT, tv) else if nB < 8 then rRn T n g (p + 1) 1 (rBw T n 1 (n + 1) 0 p - 1) 0 nB nT tv else (4, p, nB, nT, tv) else if rBw T n ln (n + 1) sp p = 0 then (2, p, nB, nT, tv) else rRn T n g (p + 1) ln (rBw T n ln (n + 1) sp p - 1) nr nB nT tv) : ConV E L m_Reader_readWord 9 [.int (nI p)] h (fun h' => rXP h0 T n g (p + 1) Z h') := by
  have hn := t.1
  refine B_Reader_readWord hE (by omega) ?_
  by_cases c0 : ln = 0
  · subst c0
    rw [if_pos rfl] at hz
    have s3 : (h.1 9 6).toNatClampNeg = 950 := by rw [S.2.2.1]; rfl
    rw [s3]
    refine ⟨⟨by decide, by decide⟩, by decide, brF' (by decide) ?_⟩
    refine (rd_line hE (by omega) t fr S hp hz).mono (fun h1 q => ?_)
    obtain ⟨f1, q⟩ := q
    rcases q with q | q | q
    · exact brT' q.1 (brT' q.2.1 (rd_bl' hE (by omega) f1 (f := 2) (by decide) (by decide) q.2.2.1 q.2.2.2))
    · refine brF' ?_ ⟨f1, Or.inr q⟩
      have := q.2.1
      rw [q.2.2.1, nI_z (by omega)]; exact q.1
    · exact brT' q.1 (brF' q.2.1 q.2.2)
  · rw [if_neg c0] at hz
    obtain ⟨s1, s2, s3, s4, s5, s6, s7, s8, s9, s10⟩ := S
    obtain ⟨e7, e8, e9⟩ := s4 c0
    rw [s3, nIc (by omega), e8, if_neg (show ¬ 950 + ln = 950 by omega)]
    refine ⟨⟨by omega, by omega⟩, by decide, brT' rfl ?_⟩
    refine (rd_behind hE (by omega) (fr.tp t) s6 s8 (by omega)).use ?_
    obtain ⟨b1, b2⟩ := rBw_le (T := T) (n := n) (ln := ln) (n + 1) sp p s8
    refine brT' s1 ?_
    by_cases c1 : rBw T n ln (n + 1) sp p = 0
    · rw [if_pos c1] at hz
      rw [c1, bx_0]
      exact brT' (show (sI h 9 8 (-1)).1 9 8 = -1 from rfl) (rd_bl' hE (by omega) (fr.s (by decide) (by decide)) (f := 2) (by decide) (by decide) (by rw [hz]) (by rw [hz]))
    · rw [if_neg c1] at hz
      have b3 := b2 c1
      obtain ⟨k, hk⟩ : ∃ k, rBw T n ln (n + 1) sp p = k + 1 := ⟨_, (Nat.succ_pred_eq_of_ne_zero c1).symm⟩
      rw [hk, Nat.add_sub_cancel] at hz
      rw [hk, bx_S]
      have n1 : ¬ nI k = -1 := nIm1 (by omega)
      exact brF' n1 ⟨fr.s (by decide) (by decide), Or.inl ⟨ln, k, nr, nB, nT, tv, ⟨s1, s2, s3, fun _ => ⟨e7, rfl, e9⟩, s5.k9, s6, by omega, by omega, s9, s10⟩, hz.symm⟩⟩
theorem rd_token (hE : EOk E) (hL : 7 ≤ L) (t : rTp h0 T n) (fr : rFr h0 h) (S : rXS h ln sp nr nB nT tv) {g p : Nat} (hp : p < n) (hb : rBeg T n p = true) {Z : Zr} (hz : rRn T n (g + 1) p ln sp nr nB nT tv = Z) : ConV E L m_Reader_readToken 9 [.int (nI p)] h (fun h' => rXP h0 T n g (p + 1) Z h') := by
  have hn := t.1
  have t' := fr.tp t
  rw [rRn_s, if_pos hb] at hz
  have hs := t'.b p
  refine B_Reader_readToken hE (by omega) ((rd_sign hE (by omega) t' (by omega)).use ((rd_isLetter hE (by omega) hs).use ?_))
  by_cases c1 : rLt (rSg T n p) = true
  · rw [if_pos c1] at hz ⊢
    exact brF (by decide) (rd_word hE (by omega) t fr S hp hz.symm)
  · rw [if_neg c1] at hz ⊢
    refine brT rfl ((rd_isDigit hE (by omega) hs).use ?_)
    by_cases c2 : rDg (rSg T n p) = true
    · rw [if_pos c2] at hz ⊢
      exact brF (by decide) (rd_number hE (by omega) t fr S hp hz.symm)
    · rw [if_neg c2] at hz ⊢
      refine brT rfl ?_
      rw [show (59 : Int32) = nI 59 from rfl, nIe hs (by decide)]
      refine ⟨fun c3 => ?_, fun c3 => ?_⟩
      · rw [if_neg c3] at hz
        exact rd_bl' hE (by omega) fr (f := 1) (by decide) (by decide) (by rw [← hz]) (by rw [← hz])
      · rw [if_pos c3] at hz
        exact rd_stop hE (by omega) fr S hz.symm
/-- how the class's reading ends -/
def rXE (h : Hp) (Z : Zr) : Prop := rXF h Z ∨ (Z.1 = 0 ∧ h.1 9 4 = 0 ∧ h.1 9 5 = -1 ∧ StV h 11 Z.2.2.1 Z.2.2.2.1 Z.2.2.2.2)
theorem rd_loop (hE : EOk E) (hL : 8 ≤ L) (t : rTp h0 T n) {Z : Zr} {P : Hp → Prop} (H : ∀ h', rFr h0 h' → rXE h' Z → P h') : ∀ g p, g + p = n → ∀ h, rXP h0 T n g p Z h → at_Reader_read_41 E L h P (nI p) := by
  have hn := t.1
  intro g
  induction g with
  | zero =>
    intro p hp h q
    obtain ⟨fr, q⟩ := q
    have e3 : h.1 9 3 = nI n := fr.2.1.trans t.2.1
    refine B_Reader_read_41 ?_
    rw [e3, show p = n by omega]
    refine brT (nI_le (Nat.le_refl _) (by omega)) ?_
    rcases q with ⟨ln, sp, nr, nB, nT, tv, S, hz⟩ | q
    · obtain ⟨s1, s2, s3, s4, s5, s6, s7, s8, s9, s10⟩ := S
      refine brT' s1 ?_
      rw [s3, nIc (by omega)]
      refine ⟨⟨by omega, by omega⟩, by decide, ?_⟩
      by_cases c0 : ln = 0
      · subst c0
        rw [if_pos (by decide)]
        refine brF' (by decide) (H h fr (Or.inr ?_))
        rw [← hz]
        exact ⟨rfl, s1, s2, s5⟩
      · rw [if_neg (show ¬ 950 + ln = 950 by omega)]
        have e : rRn T n 0 p ln sp nr nB nT tv = (2, n, nB, nT, tv) := by rw [rRn, if_neg c0]
        refine brT' rfl ((rd_bl hE (by omega) fr (f := 2) (c := n) (Z := Z) (by decide) (by decide) (by rw [← hz, e]) (by rw [← hz, e])).mono (fun h' q => H h' q.1 (Or.inl q.2)))
    · refine brF' ?_ (H h fr (Or.inl q))
      have := q.2.1
      rw [q.2.2.1, nI_z (by omega)]; exact q.1
  | succ g ih =>
    intro p hp h q
    obtain ⟨fr, q⟩ := q
    have e3 : h.1 9 3 = nI n := fr.2.1.trans t.2.1
    refine B_Reader_read_41 (brF (by rw [e3]; exact nI_ge (by omega) (by omega)) ?_)
    rcases q with ⟨ln, sp, nr, nB, nT, tv, S, hz⟩ | q
    · refine brT' S.1 ((rd_begins hE (by omega) (fr.tp t) (by omega)).use ?_)
      by_cases c : rBeg T n p = true
      · rw [if_pos c, nI_1]
        exact brF (by decide) ((rd_token hE (by omega) t fr S (by omega) c hz).mono (fun h' q => ih (p + 1) (by omega) h' q))
      · rw [if_neg c, nI_1]
        rw [rRn_s, if_neg c] at hz
        exact brT rfl (ih (p + 1) (by omega) h ⟨fr, Or.inl ⟨ln, sp, nr, nB, nT, tv, S, hz⟩⟩)
    · have ne : ¬ h.1 9 4 = 0 := by
        have := q.2.1
        rw [q.2.2.1, nI_z (by omega)]; exact q.1
      exact brF' ne (brF' ne (H h fr (Or.inl q)))
theorem store_clear (hE : EOk E) (hL : 2 ≤ L) : ConV E L m_Store_clear 11 [] h (fun h' => EqO (fun q => q = 11 ∨ q = 12) h h' ∧ StV h' 11 0 0 (fun _ _ => 0)) := by
  have hc : cls 11 = 9 := by decide +kernel
  obtain ⟨s1, s2, s3⟩ := sh_store hc
  refine B_Store_clear hE (by omega) hc ?_
  rw [s1]
  refine (fillI_ok hE (by omega) s2 (by omega)).mono (fun h1 q => ⟨(q.1.wk (fun z hz => Or.inr hz)).trans ((EqO.sI (Or.inl rfl)).trans (EqO.sI (Or.inl rfl))), hc, rfl, rfl, by decide, by decide, fun i k hi hk => ⟨?_, Nat.zero_le _⟩⟩)
  exact q.2 (7 * i + k) (by rw [s3]; omega)
theorem rd_read (hE : EOk E) (hL : 9 ≤ L) (hn : n ≤ 900) (ht : ∀ p, p < n → h.2.1 10 p = nI (T p) ∧ T p < 256) : ConV E L m_Reader_read 9 [.int (nI n)] h (fun h' => EqO (fun q => q = 9 ∨ q = 11 ∨ q = 12) h h' ∧ h'.1 9 2 = 0 ∧ rXE h' (rRn T n n 0 0 0 0 0 0 (fun _ _ => 0))) := by
  refine B_Reader_read hE (by omega) ((store_clear hE (by omega)).mono (fun h1 q => ⟨⟨by decide, by decide⟩, by decide, ?_⟩))
  obtain ⟨q1, q2⟩ := q
  have e : (if (900 : Int32) < nI n then (900 : Int32) else nI n) = nI n := by
    rw [if_neg]
    rw [show (900 : Int32) = nI 900 from rfl, nIt (by decide) (by omega)]; omega
  rw [e]
  have f0 : EqO (fun q => q = 9 ∨ q = 11 ∨ q = 12) h (sI (sI (sI (sI (sI h1 9 4 0) 9 5 (-1)) 9 6 (nI 950)) 9 3 (nI n)) 9 2 0) := (q1.wk (fun z hz => by omega)).trans ((EqO.sI (Or.inl rfl)).trans ((EqO.sI (Or.inl rfl)).trans ((EqO.sI (Or.inl rfl)).trans ((EqO.sI (Or.inl rfl)).trans (EqO.sI (Or.inl rfl))))))
  have t : rTp (sI (sI (sI (sI (sI h1 9 4 0) 9 5 (-1)) 9 6 (nI 950)) 9 3 (nI n)) 9 2 0) T n := by
    refine ⟨hn, rfl, fun p hp => ?_⟩
    rw [(f0 10 (by omega)).2.1]; exact ht p hp
  exact rd_loop hE (by omega) t (Z := rRn T n n 0 0 0 0 0 0 (fun _ _ => 0)) (fun h' f e => ⟨f0.trans f.1, f.2.2, e⟩) n 0 (by omega) _ ⟨⟨EqO.rfl', rfl, rfl⟩, Or.inl ⟨0, 0, 0, 0, 0, _, ⟨rfl, rfl, rfl, fun q => absurd rfl q, q2.k9.k9.k9.k9.k9, by decide, by decide, by decide, fun q => absurd q (by decide), fun q => absurd q (by decide)⟩, rfl⟩⟩
end ReadX3
