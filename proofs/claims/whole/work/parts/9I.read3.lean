/-! ===== the class's reader: a token, the text ===== -/
section ReadX2
variable {E : EnvX} {L : Nat} {h h0 : Hp} {T : Nat → Nat} {n : Nat}
def rFr (h0 h : Hp) : Prop := EqO (fun q => q = 9 ∨ q = 11 ∨ q = 12) h0 h ∧ h.1 9 3 = h0.1 9 3 ∧ h.1 9 2 = h0.1 9 2
theorem rFr.tp (f : rFr h0 h) (t : rTp h0 T n) : rTp h T n := by
  refine ⟨t.1, f.2.1.trans t.2.1, fun p hp => ?_⟩
  rw [(f.1 10 (by omega)).2.1]; exact t.2.2 p hp
theorem rFr.s (f : rFr h0 h) {k : Nat} {v : Int32} (h3 : k ≠ 3) (h2 : k ≠ 2) : rFr h0 (sI h 9 k v) := by
  refine ⟨f.1.trans (EqO.sI (Or.inl rfl)), ?_, ?_⟩
  · rw [sI_1, if_pos rfl, if_neg (fun e => h3 e.symm)]; exact f.2.1
  · rw [sI_1, if_pos rfl, if_neg (fun e => h2 e.symm)]; exact f.2.2
theorem rFr.s11 (f : rFr h0 h) {k : Nat} {v : Int32} : rFr h0 (sI h 11 k v) := by
  refine ⟨f.1.trans (EqO.sI (Or.inr (Or.inl rfl))), ?_, ?_⟩
  · rw [sI_1, if_neg (by decide)]; exact f.2.1
  · rw [sI_1, if_neg (by decide)]; exact f.2.2
theorem rFr.a12 (f : rFr h0 h) {k : Nat} {v : Int32} : rFr h0 (sA h 12 k v) := ⟨f.1.trans (EqO.sA (Or.inr (Or.inr rfl))), f.2.1, f.2.2⟩
def rXS (h : Hp) (ln sp nr nB nT : Nat) (tv : Nat → Nat → Nat) : Prop := h.1 9 4 = 0 ∧ h.1 9 5 = -1 ∧ h.1 9 6 = nI (950 + ln) ∧ (ln ≠ 0 → h.1 9 7 = (if ln = 1 then 1 else 0) ∧ h.1 9 8 = nI sp ∧ h.1 9 9 = nI nr) ∧ StV h 11 nB nT tv ∧ ln ≤ 2 ∧ nr ≤ sp ∧ sp ≤ 31 ∧ (ln = 1 → nB < 8) ∧ (ln = 2 → nT < 16)
def rXF (h : Hp) (Z : Zr) : Prop := Z.1 ≠ 0 ∧ Z.1 ≤ 4 ∧ h.1 9 4 = nI Z.1 ∧ h.1 9 5 = nI Z.2.1
def rXP (h0 : Hp) (T : Nat → Nat) (n g p : Nat) (Z : Zr) (h : Hp) : Prop := rFr h0 h ∧ ((∃ ln sp nr nB nT tv, rXS h ln sp nr nB nT tv ∧ rRn T n g p ln sp nr nB nT tv = Z) ∨ rXF h Z)
theorem rd_bl (hE : EOk E) (hL : 1 ≤ L) (fr : rFr h0 h) {f c : Nat} {Z : Zr} (h1 : f ≠ 0) (h2 : f ≤ 4) (e : Z.1 = f) (e2 : Z.2.1 = c) : ConV E L m_Reader_blame 9 [.int (nI f), .int (nI c)] h (fun h' => rFr h0 h' ∧ rXF h' Z) := by
  refine B_Reader_blame hE hL ⟨(fr.s (by decide) (by decide)).s (by decide) (by decide), by rw [e]; exact h1, by rw [e]; exact h2, ?_, ?_⟩
  · rw [e, sI_1, if_pos rfl, if_neg (by decide), sI_1, if_pos rfl, if_pos rfl]
  · rw [e2, sI_1, if_pos rfl, if_pos rfl]
theorem rd_bl' (hE : EOk E) (hL : 1 ≤ L) (fr : rFr h0 h) {f c g p : Nat} {Z : Zr} (h1 : f ≠ 0) (h2 : f ≤ 4) (e : Z.1 = f) (e2 : Z.2.1 = c) : ConV E L m_Reader_blame 9 [.int (nI f), .int (nI c)] h (fun h' => rXP h0 T n g p Z h') := (rd_bl hE hL fr h1 h2 e e2).mono (fun _ q => ⟨q.1, Or.inr q.2⟩)
variable {ln sp nr nB nT : Nat} {tv : Nat → Nat → Nat}
theorem rd_patS (hE : EOk E) (hL : 1 ≤ L) (S : rXS h ln sp nr nB nT tv) : RdI E L m_Reader_patternSign 0 [.ref (h.1 9 6).toNatClampNeg, .int (h.1 9 8)] h (nI (rPN ln sp)) := by
  obtain ⟨-, -, s3, s4, -, s6, s7, s8, -, -⟩ := S
  rw [s3, nIc (by omega)]
  by_cases c : ln = 0
  · subst c
    rw [rPN_0]
    exact rd_pat0 hE hL _
  · rw [(s4 c).2.1]
    exact rd_pat hE hL s6 (by omega)
theorem ln_12 (S : rXS h ln sp nr nB nT tv) {c : Nat} (h1 : rPN ln sp = c) (h2 : c ≠ 0) : ln = 1 ∨ ln = 2 := by
  have := S.2.2.2.2.2.1
  have : ln ≠ 0 := fun e => h2 (by rw [← h1, e, rPN_0])
  omega
theorem rd_stop (hE : EOk E) (hL : 4 ≤ L) (fr : rFr h0 h) (S : rXS h ln sp nr nB nT tv) {g p : Nat} {Z : Zr} (hz : Z = if rPN ln sp = 59 then rRn T n g (p + 1) 0 0 0 (if ln = 1 then nB + 1 else nB) (if ln = 1 then nT else nT + 1) tv else (2, p, nB, nT, tv)) : ConV E L m_Reader_readStop 9 [.int (nI p)] h (fun h' => rXP h0 T n g (p + 1) Z h') := by
  refine B_Reader_readStop hE (by omega) ((rd_patS hE (by omega) S).use ?_)
  rw [show (59 : Int32) = nI 59 from rfl, nIe (by have := rPN_lt ln sp; omega) (by decide)]
  refine ⟨fun c => ?_, fun c => ?_⟩
  · rw [if_pos c] at hz
    have S0 := S
    obtain ⟨s1, s2, s3, s4, s5, s6, s7, s8, s9, s10⟩ := S
    rcases ln_12 S0 c (by decide) with rfl | rfl
    · have e7 : h.1 9 7 = 1 := (s4 (by decide)).1
      rw [e7]
      refine (store_keep1 hE (by omega) s5 (s9 rfl)).use ⟨⟨by decide, by decide⟩, (fr.s11).s (by decide) (by decide), Or.inl ⟨0, 0, 0, nB + 1, nT, tv, ⟨s1, s2, rfl, fun q => absurd rfl q, (s5.k1 (s9 rfl)).keep (F := fun q => q = 9) (EqO.sI rfl) (by decide) (by decide), by decide, by decide, by decide, fun q => absurd q (by decide), fun q => absurd q (by decide)⟩, hz.symm⟩⟩
    · have e7 : h.1 9 7 = 0 := (s4 (by decide)).1
      rw [e7]
      refine (store_keep0 hE (by omega) s5 (s10 rfl)).use ⟨⟨by decide, by decide⟩, (fr.s11).s (by decide) (by decide), Or.inl ⟨0, 0, 0, nB, nT + 1, tv, ⟨s1, s2, rfl, fun q => absurd rfl q, (s5.k0 (s10 rfl)).keep (F := fun q => q = 9) (EqO.sI rfl) (by decide) (by decide), by decide, by decide, by decide, fun q => absurd q (by decide), fun q => absurd q (by decide)⟩, hz.symm⟩⟩
  · rw [if_neg c] at hz
    exact rd_bl' hE (by omega) fr (f := 2) (by decide) (by decide) (by rw [hz]) (by rw [hz])
theorem rIn_iff {v : Nat} : rIn ln nr v = true ↔ nr < rLn ln ∧ (if rKd ln nr = 3 then 0 else 1) ≤ v ∧ v ≤ rMx ln nr := by unfold rIn; exact decide_eq_true_iff
theorem rKd_lt (h12 : ln = 1 ∨ ln = 2) (hr : nr < rLn ln) : rKd ln nr < 7 ∧ rMx ln nr ≤ 9999 ∧ (rKd ln nr = 3 ↔ ln = 2 ∧ nr = 3) := by
  rcases h12 with rfl | rfl
  · have : nr < 6 := hr
    rcases (show nr = 0 ∨ nr = 1 ∨ nr = 2 ∨ nr = 3 ∨ nr = 4 ∨ nr = 5 by omega) with rfl | rfl | rfl | rfl | rfl | rfl <;> decide
  · have : nr < 4 := hr
    rcases (show nr = 0 ∨ nr = 1 ∨ nr = 2 ∨ nr = 3 by omega) with rfl | rfl | rfl | rfl <;> decide
theorem rd_kind (hE : EOk E) (hL : 1 ≤ L) (h12 : ln = 1 ∨ ln = 2) (h7 : h.1 9 7 = (if ln = 1 then 1 else 0)) (h9 : h.1 9 9 = nI nr) (hr : nr < rLn ln) : RdI E L m_Reader_kindOfNumber 9 [] h (nI (rKd ln nr)) := by
  refine B_Reader_kindOfNumber hE hL ?_
  rw [h7, h9]
  rcases h12 with rfl | rfl
  · have : nr < 6 := hr
    rw [nIc (by omega)]
    refine brF (by decide) (brF (nIneg (by omega)) ⟨⟨by decide, by decide⟩, brF (nG 6 this) ⟨⟨⟨by decide, by decide⟩, vp_in_nI this (show 6 < 2147483648 by decide)⟩, ?_, rfl⟩⟩)
    rcases (show nr = 0 ∨ nr = 1 ∨ nr = 2 ∨ nr = 3 ∨ nr = 4 ∨ nr = 5 by omega) with rfl | rfl | rfl | rfl | rfl | rfl <;> rfl
  · have : nr < 4 := hr
    rw [nIc (by omega)]
    refine brT (by decide) (brF (nIneg (by omega)) ⟨⟨by decide, by decide⟩, brF (nG 4 this) ⟨⟨⟨by decide, by decide⟩, vp_in_nI this (show 4 < 2147483648 by decide)⟩, ?_, rfl⟩⟩)
    rcases (show nr = 0 ∨ nr = 1 ∨ nr = 2 ∨ nr = 3 by omega) with rfl | rfl | rfl | rfl <;> rfl
theorem rd_inb (hE : EOk E) (hL : 2 ≤ L) (h12 : ln = 1 ∨ ln = 2) (h7 : h.1 9 7 = (if ln = 1 then 1 else 0)) (h9 : h.1 9 9 = nI nr) (hn31 : nr ≤ 31) {v : Nat} (hv : v < 2147483648) : RdI E L m_Reader_isInBounds 9 [.int (nI v)] h (if rIn ln nr v = true then 1 else 0) := by
  have fin : nr < rLn ln → ∀ a, 900 ≤ a → a ≤ 904 → nr < cln E a → cln E a < 2147483648 → cst E a nr = nI (rMx ln nr) → ((¬ nI (rKd ln nr) = 3 → ((nI v < 1 → (0 : Int32) = (if rIn ln nr v = true then 1 else 0) ∧ h = h) ∧ (¬ nI v < 1 → (inC E a (h.1 9 9) ∧ (((cst E a (h.1 9 9).toNatClampNeg) < nI v → (0 : Int32) = (if rIn ln nr v = true then 1 else 0) ∧ h = h) ∧ (¬ (cst E a (h.1 9 9).toNatClampNeg) < nI v → (1 : Int32) = (if rIn ln nr v = true then 1 else 0) ∧ h = h)))))) ∧ (nI (rKd ln nr) = 3 → ((nI v < 0 → (0 : Int32) = (if rIn ln nr v = true then 1 else 0) ∧ h = h) ∧ (¬ nI v < 0 → (inC E a (h.1 9 9) ∧ (((cst E a (h.1 9 9).toNatClampNeg) < nI v → (0 : Int32) = (if rIn ln nr v = true then 1 else 0) ∧ h = h) ∧ (¬ (cst E a (h.1 9 9).toNatClampNeg) < nI v → (1 : Int32) = (if rIn ln nr v = true then 1 else 0) ∧ h = h))))))) := by
    intro hr a ha1 ha2 hc hc2 he
    obtain ⟨k1, k2, k3⟩ := rKd_lt h12 hr
    rw [h9, nIc (by omega), he, nIt (by omega) hv, show (3 : Int32) = nI 3 from rfl, nIe (by omega) (by decide), show (1 : Int32) = nI 1 from rfl, nIt hv (by decide)]
    have hin : inC E a (nI nr) := ⟨⟨ha1, ha2⟩, vp_in_nI hc hc2⟩
    have no : ¬ ((if rKd ln nr = 3 then 0 else 1) ≤ v ∧ v ≤ rMx ln nr) → (0 : Int32) = (if rIn ln nr v = true then nI 1 else 0) := fun q => by rw [if_neg (fun z => q (rIn_iff.mp z).2)]
    have yes : ((if rKd ln nr = 3 then 0 else 1) ≤ v ∧ v ≤ rMx ln nr) → nI 1 = (if rIn ln nr v = true then nI 1 else 0) := fun q => by rw [if_pos (rIn_iff.mpr ⟨hr, q⟩)]
    refine ⟨fun c => ?_, fun c => ?_⟩
    · rw [if_neg c] at no yes
      exact ⟨fun q => ⟨no (by omega), rfl⟩, fun q => ⟨hin, fun q2 => ⟨no (by omega), rfl⟩, fun q2 => ⟨yes (by omega), rfl⟩⟩⟩
    · rw [if_pos c] at no yes
      exact ⟨fun q => absurd q (nIneg hv), fun q => ⟨hin, fun q2 => ⟨no (by omega), rfl⟩, fun q2 => ⟨yes (by omega), rfl⟩⟩⟩
  have out : ¬ nr < rLn ln → (0 : Int32) = (if rIn ln nr v = true then 1 else 0) := fun q => by rw [if_neg (fun z => q (rIn_iff.mp z).1)]
  refine B_Reader_isInBounds hE (by omega) ?_
  have e7 := h7
  rcases h12 with rfl | rfl
  · refine brF (by rw [h7]; decide) (brF (by rw [h9]; exact nIneg (by omega)) ⟨⟨by decide, by decide⟩, ?_⟩)
    by_cases c : nr < 6
    · refine brT (by rw [h9]; exact nLt 6 c) ((rd_kind hE (by omega) (Or.inl rfl) h7 h9 c).use (fin c 902 (by decide) (by decide) c (show 6 < 2147483648 by decide) ?_))
      rcases (show nr = 0 ∨ nr = 1 ∨ nr = 2 ∨ nr = 3 ∨ nr = 4 ∨ nr = 5 by omega) with rfl | rfl | rfl | rfl | rfl | rfl <;> rfl
    · exact brF (by rw [h9]; show ¬ nI nr < nI 6; rw [nIt (by omega) (by decide)]; exact c) ⟨out c, rfl⟩
  · refine brT (by rw [h7]; decide) (brF (by rw [h9]; exact nIneg (by omega)) ⟨⟨by decide, by decide⟩, ?_⟩)
    by_cases c : nr < 4
    · refine brT (by rw [h9]; exact nLt 4 c) ((rd_kind hE (by omega) (Or.inr rfl) h7 h9 c).use (fin c 904 (by decide) (by decide) c (show 4 < 2147483648 by decide) ?_))
      rcases (show nr = 0 ∨ nr = 1 ∨ nr = 2 ∨ nr = 3 by omega) with rfl | rfl | rfl | rfl <;> rfl
    · exact brF (by rw [h9]; show ¬ nI nr < nI 4; rw [nIt (by omega) (by decide)]; exact c) ⟨out c, rfl⟩
theorem rd_number (hE : EOk E) (hL : 4 ≤ L) (t : rTp h0 T n) (fr : rFr h0 h) (S : rXS h ln sp nr nB nT tv) {g p : Nat} (hp : p < n) {Z : Zr} (hz : Z = if 4 < rDl T n 5 p then (1, p, nB, nT, tv) else if rPN ln sp = 35 then if rIn ln nr (rVl T n p (rDl T n 5 p)) = true then rRn T n g (p + 1) ln (sp + 1) (nr + 1) nB nT (rUp tv (if ln = 1 then nB else 8 + nT) (rKd ln nr) (rVl T n p (rDl T n 5 p))) else (3, p, nB, nT, tv) else (2, p, nB, nT, tv)) : ConV E L m_Reader_readNumber 9 [.int (nI p)] h (fun h' => rXP h0 T n g (p + 1) Z h') := by
  have t' := fr.tp t
  have hn := t.1
  refine B_Reader_readNumber hE (by omega) ?_
  have fin : ∀ k, k ≤ 4 → rDl T n 5 p = k → rVl T n p k < 100000 → ConI E (L - 1) m_Reader_patternSign 0 [.ref (h.1 9 6).toNatClampNeg, .int (h.1 9 8)] h (fun y18 h17 => ((y18 = 35 → ConI E (L - 1) m_Reader_isInBounds 9 [.int (nI (rVl T n p k))] h17 (fun y20 h19 => ((¬ y20 = 0 → ConI E (L - 1) m_Store_nextItem 11 [.int (h19.1 9 7)] h19 (fun y22 h21 => ConI E (L - 1) m_Reader_kindOfNumber 9 [] h21 (fun y24 h23 => ConV E (L - 1) m_Store_tell 11 [.int y22, .int y24, .int (nI (rVl T n p k))] h23 (fun h25 => rXP h0 T n g (p + 1) Z (sI (sI h25 9 9 ((h25.1 9 9) + 1)) 9 8 (((sI h25 9 9 ((h25.1 9 9) + 1)).1 9 8) + 1)))))) ∧ (y20 = 0 → ConV E (L - 1) m_Reader_blame 9 [.int 3, .int (nI p)] h19 (fun h26 => rXP h0 T n g (p + 1) Z h26))))) ∧ (¬ y18 = 35 → ConV E (L - 1) m_Reader_blame 9 [.int 2, .int (nI p)] h17 (fun h27 => rXP h0 T n g (p + 1) Z h27)))) := by
    intro k hk hd hV
    rw [hd, if_neg (show ¬ 4 < k by omega)] at hz
    refine (rd_patS hE (by omega) S).use ?_
    rw [show (35 : Int32) = nI 35 from rfl, nIe (by have := rPN_lt ln sp; omega) (by decide)]
    refine ⟨fun c => ?_, fun c => ?_⟩
    · rw [if_pos c] at hz
      have h12 := ln_12 S c (by decide)
      have hsp : sp < 31 := rPN_len (ln := ln) (by rw [c]; decide)
      obtain ⟨s1, s2, s3, s4, s5, s6, s7, s8, s9, s10⟩ := S
      obtain ⟨e7, e8, e9⟩ := s4 (by omega)
      refine (rd_inb hE (by omega) h12 e7 e9 (by omega) (by omega)).use ?_
      by_cases ci : rIn ln nr (rVl T n p k) = true
      · rw [if_pos ci] at hz ⊢
        refine brF' (by decide) ?_
        have ci' := rIn_iff.mp ci
        obtain ⟨k1, k2, k3⟩ := rKd_lt h12 ci'.1
        have nx : RdI E (L - 1) m_Store_nextItem 11 [.int (h.1 9 7)] h (nI (if ln = 1 then nB else 8 + nT)) := by
          rw [e7]
          rcases h12 with rfl | rfl
          · exact store_next1 hE (by omega) s5
          · exact store_next0 hE (by omega) s5
        have h24 : (if ln = 1 then nB else 8 + nT) < 24 := by
          rcases h12 with rfl | rfl
          · have := s9 rfl
            rw [if_pos rfl]; omega
          · have := s10 rfl
            rw [if_neg (by decide)]; omega
        refine nx.use ((rd_kind hE (by omega) h12 e7 e9 ci'.1).use ((store_tell hE (by omega) s5 h24 k1).use ?_))
        generalize (if ln = 1 then nB else 8 + nT) = it at hz h24
        have S2 := s5.told (i := it) (k := rKd ln nr) (v := rVl T n p k) k1 (by omega)
        refine ⟨((fr.a12).s (by decide) (by decide)).s (by decide) (by decide), Or.inl ⟨ln, sp + 1, nr + 1, nB, nT, _, ⟨s1, s2, s3, fun _ => ⟨e7, ?_, ?_⟩, ?_, s6, by omega, by omega, s9, s10⟩, hz.symm⟩⟩
        · rw [sI_1, if_pos rfl, if_pos rfl]
          show h.1 9 8 + 1 = nI (sp + 1)
          rw [e8, nI_1]
        · show h.1 9 9 + 1 = nI (nr + 1)
          rw [e9, nI_1]
        · exact (S2.keep (F := fun q => q = 9) (EqO.sI rfl) (by decide) (by decide)).keep (F := fun q => q = 9) (EqO.sI rfl) (by decide) (by decide)
      · rw [if_neg ci] at hz ⊢
        exact brT' rfl (rd_bl' hE (by omega) fr (f := 3) (by decide) (by decide) (by rw [hz]) (by rw [hz]))
    · rw [if_neg c] at hz
      exact rd_bl' hE (by omega) fr (f := 2) (by decide) (by decide) (by rw [hz]) (by rw [hz])
  have main : ∀ d k, k + d = 5 → (∀ i, i < k → rDg (rSg T n (p + i)) = true) → at_Reader_readNumber_4 E L h (fun h' => rXP h0 T n g (p + 1) Z h') (nI p) (nI (rVl T n p k)) (nI k) := by
    intro d
    induction d with
    | zero =>
      intro k hk hd
      have e5 : k = 5 := by omega
      subst e5
      have : rDl T n 5 p = 5 := rDl_is 5 5 p (by omega) hd (Or.inl rfl)
      rw [this, if_pos (by decide)] at hz
      refine B_Reader_readNumber_4 (brT (by decide) (brF (by decide) ?_))
      exact rd_bl' hE (by omega) fr (f := 1) (by decide) (by decide) (by rw [hz]) (by rw [hz])
    | succ d ih =>
      intro k hk hd
      have hV := rVl_lt p k hd
      have hV2 : (10 : Nat) ^ k ≤ 10 ^ 4 := Nat.pow_le_pow_right (by decide) (by omega)
      have hV3 : rVl T n p k < 100000 := by omega
      have hb := t'.b (p + k)
      refine B_Reader_readNumber_4 (brF ?_ ?_)
      · rw [show (4 : Int32) = nI 4 from rfl, nIt (by decide) (by omega)]; omega
      · rw [nI_add]
        refine (rd_sign hE (by omega) t' (by omega)).use ((rd_isDigit hE (by omega) hb).use ?_)
        by_cases c : rDg (rSg T n (p + k)) = true
        · rw [if_pos c]
          refine brF (by decide) ((rd_sign hE (by omega) t' (by omega)).use ?_)
          have c' := rDg_iff.mp c
          have e : nI (rVl T n p k) * 10 + nI (rSg T n (p + k)) - 48 = nI (rVl T n p (k + 1)) := by
            rw [show (10 : Int32) = nI 10 from rfl, show (48 : Int32) = nI 48 from rfl, nI_mul, nI_add, nI_sub (by omega)]
            show _ = nI (10 * rVl T n p k + (rSg T n (p + k) - 48))
            congr 1; omega
          rw [e, nI_1]
          refine ih (k + 1) (by omega) (fun i hi => ?_)
          rcases Nat.lt_or_ge i k with q | q
          · exact hd i q
          · rw [show i = k by omega]; exact c
        · rw [if_neg c]
          refine brT rfl (brT ?_ (fin k (by omega) (rDl_is 5 k p (by omega) hd (Or.inr (by cases x : rDg (rSg T n (p + k)) <;> first | rfl | exact absurd x c))) hV3))
          rw [show (4 : Int32) = nI 4 from rfl, nIl (by omega) (by decide)]; omega
  exact main 5 0 (by omega) (fun i hi => absurd hi (Nat.not_lt_zero i))
end ReadX2
