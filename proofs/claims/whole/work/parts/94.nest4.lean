section Nest4
variable {E : EnvX} {nB nT : Nat} {tv : Nat → Nat → Nat} {pk lv sn : Nat → Nat} {ck : Nat}
def fvN (tv : Nat → Nat → Nat) (nB n : Nat) (sq : Nat → Nat) (N b : Nat) : Nat := if n = 0 then 1 + mR tv nB (N ||| 2 ^ b) b else if okN tv n sq = true then mwF tv nB (mR tv nB) N (sq (n - 1)) b else 0
def ptN (tv : Nat → Nat → Nat) (nB n : Nat) (sq : Nat → Nat) (N : Nat) : Nat → Nat
  | 0 => (gmx (fvN tv nB n sq N) nB).1 - 1
  | t + 1 => nP tv nB t (N ||| 2 ^ ((gmx (fvN tv nB n sq N) nB).1 - 1)) ((gmx (fvN tv nB n sq N) nB).1 - 1)
theorem fv_on {n N : Nat} {sq : Nat → Nat} (hn : 1 ≤ n) (ok : okN tv n sq = true) : gmx (fvN tv nB n sq N) nB = Gm tv nB N (sq (n - 1)) nB := by
  unfold Gm
  refine gmx_cong (fun k _ => ?_)
  unfold fvN; rw [if_neg (by omega), if_pos ok]
theorem fv_off {n N : Nat} {sq : Nat → Nat} (hn : 1 ≤ n) (ok : okN tv n sq = false) : ∀ k, gmx (fvN tv nB n sq N) k = (0, 0)
  | 0 => rfl
  | k + 1 => by
    rw [gmx_s, fv_off hn ok k]
    have : fvN tv nB n sq N k = 0 := by unfold fvN; rw [if_neg (by omega), if_neg (by rw [ok]; decide)]
    rw [this]; rfl
theorem pt_on {n N : Nat} {sq : Nat → Nat} (hn : 1 ≤ n) (ok : okN tv n sq = true) : ∀ t, ptN tv nB n sq N t = nP tv nB t N (sq (n - 1))
  | 0 => by unfold ptN nP; rw [fv_on hn ok]
  | t + 1 => by
    show nP tv nB t (N ||| 2 ^ ((gmx (fvN tv nB n sq N) nB).1 - 1)) ((gmx (fvN tv nB n sq N) nB).1 - 1) = nP tv nB t (N ||| 2 ^ ((Gm tv nB N (sq (n - 1)) nB).1 - 1)) ((Gm tv nB N (sq (n - 1)) nB).1 - 1)
    rw [fv_on hn ok]
theorem child {n N b : Nat} {sq : Nat → Nat} (hN : cN nB (N ||| 2 ^ b) ≤ nB) (hc : n = 0 ∨ (okN tv n sq && cnN tv nB N (sq (n - 1)) b) = true) : 1 + (gmx (fvN tv nB (n + 1) (upN sq n b) (N ||| 2 ^ b)) nB).2 = fvN tv nB n sq N b ∧ ∀ t, t < (gmx (fvN tv nB (n + 1) (upN sq n b) (N ||| 2 ^ b)) nB).2 → ptN tv nB (n + 1) (upN sq n b) (N ||| 2 ^ b) t = nP tv nB t (N ||| 2 ^ b) b := by
  have eb : upN sq n b (n + 1 - 1) = b := upN_y
  have okc : okN tv (n + 1) (upN sq n b) = (decide (n = 0) || onN tv (sq (n - 1)) b) := by
    unfold okN
    rw [eb]
    by_cases z : n = 0
    · rw [decide_eq_true z, decide_eq_true (show n + 1 = 1 by omega)]; rfl
    · rw [decide_eq_false z, decide_eq_false (show ¬ n + 1 = 1 by omega), show upN sq n b (n + 1 - 2) = sq (n - 1) by rw [show n + 1 - 2 = n - 1 by omega]; exact upN_n (by omega)]
  cases q : okN tv (n + 1) (upN sq n b)
  · rw [fv_off (by omega) q]
    refine ⟨?_, fun t z => absurd z (Nat.not_lt_zero t)⟩
    rw [q] at okc
    have z : ¬ n = 0 := fun z => by rw [decide_eq_true z] at okc; cases okc
    have o : onN tv (sq (n - 1)) b = false := by rw [decide_eq_false z] at okc; simpa using okc.symm
    have c := hc.resolve_left z
    rw [Bool.and_eq_true] at c
    unfold fvN mwF
    rw [if_neg z, if_pos c.1, if_pos c.2, o, if_neg (by decide)]; rfl
  · rw [fv_on (by omega) q]
    refine ⟨?_, fun t _ => by rw [pt_on (by omega) q, eb]⟩
    rw [eb, ← mR_eq _ _ hN]
    unfold fvN mwF
    by_cases z : n = 0
    · rw [if_pos z]
    · have c := hc.resolve_left z
      rw [Bool.and_eq_true] at c
      rw [q, decide_eq_false z, Bool.false_or] at okc
      rw [if_neg z, if_pos c.1, if_pos c.2, ← okc, if_pos rfl]
theorem fv_le {n N b : Nat} {sq : Nat → Nat} (hb : b < nB) (hN : cN nB N = n) (hn : n < nB) : fvN tv nB n sq N b + n ≤ nB := by
  unfold fvN
  by_cases z : n = 0
  · rw [if_pos z]
    have l1 := mR_le (tv := tv) (nB := nB) (N ||| 2 ^ b) b
    have : N.testBit b = false := by
      cases t : N.testBit b
      · rfl
      · have := sE_part (fun b => if N.testBit b = true then 1 else 0) hb
        rw [if_pos t] at this
        have e : cN nB N = sE (fun b => if N.testBit b = true then 1 else 0) nB := rfl
        omega
    have e := cN_add hb this
    omega
  · rw [if_neg z]
    split
    · rcases mw_le (tv := tv) (N := N) (l := sq (n - 1)) hb with w | w <;> omega
    · omega
theorem m_nests1 (hE : EOk E) (h8 : nB ≤ 8) (ht : ∀ b, b < nB → tv b 2 ≤ 99) {n L : Nat} (hL : 6 ≤ L) {h : Hp} {sq : Nat → Nat} {N F : Nat} (M : MdV h nB nT tv pk sn ck) (V : NsV h tv nB n sq N) (hF : h.1 74 28 = nI F) (F1 : F ≤ 100) (ch : n < nB → ∀ (h2 : Hp) (b F' : Nat), b < nB → MdV h2 nB nT tv pk sn ck → NsV h2 tv nB (n + 1) (upN sq n b) (N ||| 2 ^ b) → h2.1 74 28 = nI F' → F' ≤ 100 → ConV E (L - 1) m_M_nests 74 [.int (nI (n + 1)), .int (nI (N ||| 2 ^ b))] h2 (nsPo tv nB (n + 1) (gmx (fvN tv nB (n + 1) (upN sq n b) (N ||| 2 ^ b)) nB).2 (ptN tv nB (n + 1) (upN sq n b) (N ||| 2 ^ b)) F' h2)) : ConV E L m_M_nests 74 [.int (nI n), .int (nI N)] h (nsPo tv nB n (gmx (fvN tv nB n sq N) nB).2 (ptN tv nB n sq N) F h) := by
  have p9 := pow9 h8
  obtain ⟨v1, v2, v3, v4, v5, v6⟩ := V
  -- the loop over the boxes
  have l40 : ∀ f b, f + b = nB → ∀ h1, EqO (fun x => x = 74 ∨ x = 85 ∨ x = 86) h h1 → (∀ k, k ≠ 28 → h1.1 74 k = h.1 74 k) → (∀ t, t < n → h1.2.1 85 t = h.2.1 85 t) → ((if F < n then n else F) < n + (gmx (fvN tv nB n sq N) b).2 → h1.1 74 28 = nI (n + (gmx (fvN tv nB n sq N) b).2) ∧ (∀ t, t < n → h1.2.1 86 t = h.2.1 85 t) ∧ h1.2.1 86 n = nI ((gmx (fvN tv nB n sq N) b).1 - 1) ∧ ∀ t, t + 1 < (gmx (fvN tv nB n sq N) b).2 → h1.2.1 86 (n + 1 + t) = nI (nP tv nB t (N ||| 2 ^ ((gmx (fvN tv nB n sq N) b).1 - 1)) ((gmx (fvN tv nB n sq N) b).1 - 1))) → (¬ (if F < n then n else F) < n + (gmx (fvN tv nB n sq N) b).2 → h1.1 74 28 = nI (if F < n then n else F) ∧ (F < n → ∀ t, t < n → h1.2.1 86 t = h.2.1 85 t) ∧ (¬ F < n → h1.2.1 86 = h.2.1 86)) → at_M_nests_40 E L h1 (nsPo tv nB n (gmx (fvN tv nB n sq N) nB).2 (ptN tv nB n sq N) F h) (nI n) (nI N) (nI b) := by
    intro f
    induction f with
    | zero =>
      intro b hb h1 e1 k1 s1 y no
      rw [show b = nB by omega] at y no ⊢
      have M1 : MdV h1 nB nT tv pk sn ck := MsV_eq M (e1 75 (by omega)).2.1
      refine B_M_nests_40 ⟨in75 (k := 0) (by omega), ?_⟩
      rw [e750 M1]
      refine brT (nI_le (Nat.le_refl _) (by omega)) ⟨e1, k1, s1, fun c => ?_, fun c => ?_⟩
      · by_cases d : (if F < n then n else F) < n + (gmx (fvN tv nB n sq N) nB).2
        · obtain ⟨y1, y2, y3, y4⟩ := y d
          refine ⟨y1, y2, fun t ht' => ?_⟩
          cases t with
          | zero => exact y3
          | succ t => rw [show n + (t + 1) = n + 1 + t by omega]; exact y4 t ht'
        · obtain ⟨y1, y2, y3⟩ := no d
          have Fn : F < n := by
            refine Classical.byContradiction fun z => d ?_
            rw [if_neg z]; exact c
          rw [if_pos Fn] at d y1
          have A0 : (gmx (fvN tv nB n sq N) nB).2 = 0 := by omega
          rw [A0]
          exact ⟨y1, y2 Fn, fun t z => absurd z (Nat.not_lt_zero t)⟩
      · have Fn : ¬ F < n := by omega
        have d : ¬ (if F < n then n else F) < n + (gmx (fvN tv nB n sq N) nB).2 := by rw [if_neg Fn]; exact c
        obtain ⟨y1, y2, y3⟩ := no d
        rw [if_neg Fn] at y1
        exact ⟨y1, y3 Fn⟩
    | succ f ihf =>
      intro b hb h1 e1 k1 s1 y no
      have M1 : MdV h1 nB nT tv pk sn ck := MsV_eq M (e1 75 (by omega)).2.1
      have V1 : NsV h1 tv nB n sq N := ⟨v1, v2, v3, fun t ht' => by rw [s1 t ht']; exact v4 t ht', v5, v6⟩
      have bnB : b < nB := by omega
      have gs := gmx_s (fvN tv nB n sq N) b
      have keep : fvN tv nB n sq N b = 0 → at_M_nests_40 E L h1 (nsPo tv nB n (gmx (fvN tv nB n sq N) nB).2 (ptN tv nB n sq N) F h) (nI n) (nI N) (nI (b + 1)) := fun z => by
        rw [z, if_neg (Nat.not_lt_zero _)] at gs
        exact ihf (b + 1) (by omega) h1 e1 k1 s1 (by rw [gs]; exact y) (by rw [gs]; exact no)
      refine B_M_nests_40 ⟨in75 (k := 0) (by omega), ?_⟩
      rw [e750 M1, bitN (by omega) (by omega), nI_1]
      refine brF (nI_ge (by omega) (by omega)) ?_
      cases t : N.testBit b
      · rw [if_neg (by decide)]
        refine brF (by decide) ?_
        have nlt : n < nB := Classical.byContradiction fun z => by
          have := cN_full (nB := nB) (N := N) bnB (by omega)
          rw [t] at this; cases this
        have cad := cN_add bnB t
        have pb : 2 ^ b < 2 ^ nB := Nat.pow_lt_pow_right (by decide) bnB
        have go : (n = 0 ∨ (okN tv n sq && cnN tv nB N (sq (n - 1)) b) = true) → (inI 85 (nI n) ∧ ConV E (L - 1) m_M_nests 74 [.int (nI n + 1), .int (nI N ||| ((1 : Int32) <<< (nI b &&& 31)))] (sA h1 85 (nI n).toNatClampNeg (nI b)) (fun h3 => at_M_nests_40 E L h3 (nsPo tv nB n (gmx (fvN tv nB n sq N) nB).2 (ptN tv nB n sq N) F h) (nI n) (nI N) (nI (b + 1)))) := fun hc => by
          obtain ⟨c1, c2⟩ := child (nB := nB) (b := b) (by omega) hc
          have fl := fv_le (tv := tv) (sq := sq) bnB v3 nlt
          rw [nI_1, shlN (by omega), orN (by omega) (by omega), nIc (by omega)]
          refine ⟨(in85 (by omega)).1, ?_⟩
          have M2 : MdV (sA h1 85 n (nI b)) nB nT tv pk sn ck := MsV_eq M1 rfl
          have r85 : ∀ i, (sA h1 85 n (nI b)).2.1 85 i = if i = n then nI b else h1.2.1 85 i := fun i => by rw [sA_A, if_pos rfl]
          have r86 : (sA h1 85 n (nI b)).2.1 86 = h1.2.1 86 := ((EqO.sA (F := fun q => q = 85) rfl) 86 (by omega)).2.1
          have V2 : NsV (sA h1 85 n (nI b)) tv nB (n + 1) (upN sq n b) (N ||| 2 ^ b) := by
            refine ⟨by omega, Nat.or_lt_two_pow v2 pb, by omega, fun i hi => ?_, ?_, fun _ => ?_⟩
            · rw [r85]
              by_cases d : i = n
              · rw [if_pos d, d, upN_y]; exact ⟨rfl, bnB⟩
              · rw [if_neg d, upN_n d]; exact V1.2.2.2.1 i (by omega)
            · rw [wB_add bnB t, v5, sE_s, upN_y]
              congr 1
              exact sE_cong (n := n) (fun i hi => by rw [upN_n (by omega)])
            · show (N ||| 2 ^ b).testBit (upN sq n b (n + 1 - 1)) = true
              rw [show upN sq n b (n + 1 - 1) = b from upN_y, orb, decide_eq_true rfl, Bool.or_true]
          obtain ⟨Fb, b1, b2, b3⟩ : ∃ Fb, h1.1 74 28 = nI Fb ∧ Fb ≤ 100 ∧ Fb = (if (if F < n then n else F) < n + (gmx (fvN tv nB n sq N) b).2 then n + (gmx (fvN tv nB n sq N) b).2 else (if F < n then n else F)) := by
            by_cases d : (if F < n then n else F) < n + (gmx (fvN tv nB n sq N) b).2
            · refine ⟨_, (y d).1, ?_, by rw [if_pos d]⟩
              by_cases z : (gmx (fvN tv nB n sq N) b).2 = 0
              · omega
              · obtain ⟨g1, g2, g3, -⟩ := gmx_yes _ z
                have := fv_le (tv := tv) (sq := sq) (b := (gmx (fvN tv nB n sq N) b).1 - 1) (by omega) v3 nlt
                omega
            · exact ⟨_, (no d).1, by split <;> omega, by rw [if_neg d]⟩
          refine (ch nlt (sA h1 85 n (nI b)) b Fb bnB M2 V2 b1 b2).mono (fun h3 z3 => ?_)
          obtain ⟨o1, o2, o3, o4, o5⟩ := z3
          have eq3 : EqO (fun x => x = 74 ∨ x = 85 ∨ x = 86) h h3 := (e1.trans (EqO.sA (F := fun x => x = 74 ∨ x = 85 ∨ x = 86) (by omega))).trans o1
          have k3 : ∀ k, k ≠ 28 → h3.1 74 k = h.1 74 k := fun k hk => by rw [o2 k hk]; exact k1 k hk
          have s3 : ∀ i, i < n → h3.2.1 85 i = h.2.1 85 i := fun i hi => by rw [o3 i (by omega), r85, if_neg (by omega)]; exact s1 i hi
          by_cases u : Fb < n + 1 + (gmx (fvN tv nB (n + 1) (upN sq n b) (N ||| 2 ^ b)) nB).2
          · obtain ⟨w1, w2, w3⟩ := o4 u
            have lt : (gmx (fvN tv nB n sq N) b).2 < fvN tv nB n sq N b := by
              by_cases z : (if F < n then n else F) < n + (gmx (fvN tv nB n sq N) b).2
              · rw [b3, if_pos z] at u; omega
              · rw [b3, if_neg z] at u; omega
            rw [if_pos lt] at gs
            refine ihf (b + 1) (by omega) h3 eq3 k3 s3 (fun d => ?_) (fun d => ?_)
            · rw [gs]
              refine ⟨?_, fun i hi => ?_, ?_, fun i hi => ?_⟩
              · rw [w1]; congr 1; show _ = n + fvN tv nB n sq N b; omega
              · rw [w2 i (by omega), r85, if_neg (by omega)]; exact s1 i hi
              · rw [w2 n (by omega), r85, if_pos rfl]; rfl
              · have hi' : i + 1 < fvN tv nB n sq N b := hi
                rw [w3 i (by omega), c2 i (by omega)]; rfl
            · rw [gs] at d
              have d' : ¬ (if F < n then n else F) < n + fvN tv nB n sq N b := d
              by_cases z : (if F < n then n else F) < n + (gmx (fvN tv nB n sq N) b).2
              · rw [b3, if_pos z] at u; omega
              · rw [b3, if_neg z] at u; omega
          · obtain ⟨w1, w2⟩ := o5 u
            by_cases lt : (gmx (fvN tv nB n sq N) b).2 < fvN tv nB n sq N b
            · rw [if_pos lt] at gs
              have nF' : ¬ (if F < n then n else F) < n + (gmx (fvN tv nB n sq N) b).2 := fun z => by rw [b3, if_pos z] at u; omega
              obtain ⟨z1, z2, z3⟩ := no nF'
              rw [b3, if_neg nF'] at u w1
              refine ihf (b + 1) (by omega) h3 eq3 k3 s3 (fun d => ?_) (fun _ => ⟨w1, fun q i hi => by rw [w2, r86]; exact z2 q i hi, fun q => by rw [w2, r86]; exact z3 q⟩)
              rw [gs] at d
              have d' : (if F < n then n else F) < n + fvN tv nB n sq N b := d
              omega
            · rw [if_neg lt] at gs
              refine ihf (b + 1) (by omega) h3 eq3 k3 s3 (fun d => ?_) (fun d => ?_)
              · rw [gs] at d ⊢
                obtain ⟨y1, y2, y3, y4⟩ := y d
                rw [b3, if_pos d] at w1
                exact ⟨w1, fun i hi => by rw [w2, r86]; exact y2 i hi, by rw [w2, r86]; exact y3, fun i hi => by rw [w2, r86]; exact y4 i hi⟩
              · rw [gs] at d
                obtain ⟨y1, y2, y3⟩ := no d
                rw [b3, if_neg d] at w1
                exact ⟨w1, fun q i hi => by rw [w2, r86]; exact y2 q i hi, fun q => by rw [w2, r86]; exact y3 q⟩
        rw [nI_le0 (by omega)]
        refine ⟨fun n0 => go (Or.inl n0), fun n0 => ?_⟩
        refine (m_canNest hE (by omega) M1 ht V1 (by omega) bnB t).use ?_
        by_cases q : (okN tv n sq && cnN tv nB N (sq (n - 1)) b) = true
        · rw [if_pos q]; exact brF' (by decide) (go (Or.inr q))
        · rw [if_neg q]
          refine brT' rfl (keep ?_)
          unfold fvN mwF
          rw [if_neg n0]
          cases o : okN tv n sq
          · rw [if_neg (by decide)]
          · rw [if_pos rfl, if_neg (fun z => q (by rw [o, z]; rfl))]
      · rw [if_pos rfl]
        refine brT rfl (keep ?_)
        have n0 : ¬ n = 0 := fun z => by
          have := sE_part (fun b => if N.testBit b = true then 1 else 0) bnB
          rw [if_pos t] at this
          have e : cN nB N = sE (fun b => if N.testBit b = true then 1 else 0) nB := rfl
          omega
        unfold fvN mwF cnN
        rw [if_neg n0, t]
        split
        · rw [if_neg (by simp)]
        · rfl
  refine B_M_nests hE (by omega) ?_
  rw [hF, nIl (by omega) (by omega)]
  refine ⟨fun c => ?_, fun c => ?_⟩
  · refine l40 nB 0 (by omega) h EqO.rfl' (fun _ _ => rfl) (fun _ _ => rfl) (fun d => ?_) (fun _ => ⟨?_, fun z => by omega, fun _ => rfl⟩)
    · have d' : (if F < n then n else F) < n + 0 := d
      split at d' <;> omega
    · rw [if_neg (by omega)]; exact hF
  · have l15 : ∀ f k, f + k = n → ∀ h1, EqO (fun x => x = 86) (sI h 74 28 (nI n)) h1 → (∀ t, t < k → h1.2.1 86 t = h.2.1 85 t) → at_M_nests_15 E L h1 (nsPo tv nB n (gmx (fvN tv nB n sq N) nB).2 (ptN tv nB n sq N) F h) (nI n) (nI N) (nI k) := by
      intro f
      induction f with
      | zero =>
        intro k hk h1 e1 a1
        rw [show k = n by omega] at a1 ⊢
        refine B_M_nests_15 (brT (nI_le (Nat.le_refl _) (by omega)) (l40 nB 0 (by omega) h1 ((EqO.sI (F := fun x => x = 74 ∨ x = 85 ∨ x = 86) (Or.inl rfl)).trans (e1.wk (fun x z => by omega))) (fun k hk => ?_) (fun t _ => ?_) (fun d => ?_) (fun _ => ⟨?_, fun _ => a1, fun z => by omega⟩)))
        · rw [(e1 74 (by omega)).1, sI_1, if_pos rfl, if_neg hk]
        · rw [(e1 85 (by omega)).2.1]; rfl
        · have d' : (if F < n then n else F) < n + 0 := d
          split at d' <;> omega
        · rw [(e1 74 (by omega)).1, sI_1, if_pos rfl, if_pos rfl, if_pos (by omega)]
      | succ f ihf =>
        intro k hk h1 e1 a1
        refine B_M_nests_15 (brF (nI_ge (by omega) (by omega)) ⟨(in85 (by omega)).1, (in85 (by omega)).2, ?_⟩)
        rw [nIc (by omega), nI_1]
        refine ihf (k + 1) (by omega) _ (e1.trans (EqO.sA (F := fun x => x = 86) rfl)) (fun t ht' => ?_)
        rw [sA_A, if_pos rfl]
        by_cases d : t = k
        · rw [if_pos d, d, (e1 85 (by omega)).2.1]; rfl
        · rw [if_neg d]; exact a1 t (by omega)
    exact l15 n 0 (by omega) _ EqO.rfl' (fun t z => absurd z (Nat.not_lt_zero t))
theorem m_nests (hE : EOk E) (h8 : nB ≤ 8) (ht : ∀ b, b < nB → tv b 2 ≤ 99) : ∀ m n, m + n = nB → ∀ (L : Nat), 6 + m ≤ L → ∀ (h : Hp) (sq : Nat → Nat) (N F : Nat), MdV h nB nT tv pk sn ck → NsV h tv nB n sq N → h.1 74 28 = nI F → F ≤ 100 → ConV E L m_M_nests 74 [.int (nI n), .int (nI N)] h (nsPo tv nB n (gmx (fvN tv nB n sq N) nB).2 (ptN tv nB n sq N) F h) := by
  intro m
  induction m with
  | zero =>
    intro n hn L hL h sq N F M V hF F1
    exact m_nests1 hE h8 ht (by omega) M V hF F1 (fun z => by omega)
  | succ m ih =>
    intro n hn L hL h sq N F M V hF F1
    exact m_nests1 hE h8 ht (by omega) M V hF F1 (fun _ h2 b F' _ M2 V2 f1 f2 => ih (n + 1) (by omega) (L - 1) (by omega) h2 _ _ F' M2 V2 f1 f2)
end Nest4
