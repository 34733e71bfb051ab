/-! ===== Layout, on: what lies over, what may be put, acts ===== -/
/-- bit j of a set -/
def bO (x : Int32) (j : Nat) : Bool := decide (¬ ((x >>> (nI j &&& 31)) &&& 1) = 0)
theorem bO_t {x : Int32} {j : Nat} (h : ¬ ((x >>> (nI j &&& 31)) &&& 1) = 0) : bO x j = true := decide_eq_true h
theorem bO_f {x : Int32} {j : Nat} (h : ((x >>> (nI j &&& 31)) &&& 1) = 0) : bO x j = false := decide_eq_false (fun c => c h)
theorem bO_ft {x : Int32} {j : Nat} : bO x j = false ↔ ((x >>> (nI j &&& 31)) &&& 1) = 0 := by
  unfold bO
  rw [decide_eq_false_iff_not, Decidable.not_not]
theorem bO_tt {x : Int32} {j : Nat} : bO x j = true ↔ ¬ ((x >>> (nI j &&& 31)) &&& 1) = 0 := by
  unfold bO
  rw [decide_eq_true_eq]
theorem bO_0 {j : Nat} (h : j < 32) : bO 0 j = false := (show ∀ j, j < 32 → bO 0 j = false by decide +kernel) j h
def findF (p : Nat → Bool) : Nat → Nat → Nat
  | 0, _ => 0
  | n + 1, k => if p k = true then k + 1 else findF p n (k + 1)
def itn (pk : Nat → Nat) : Nat → Nat → Nat
  | 0, c => c
  | n + 1, c => itn pk n (nx pk c)
def atL (pk lv : Nat → Nat) (c l : Nat) : Nat := findF (fun i => decide (pk i = c ∧ lv i = l)) 24 0
def ovF (pk lv : Nat → Nat) (c : Nat) : Nat → Nat → Nat
  | 0, _ => 0
  | s + 1, l => if l < mAb pk lv (bO 0) (itn pk s c) then atL pk lv (nx pk (itn pk s c)) (cnt pk (nx pk (itn pk s c)) - 1 - l) else ovF pk lv c s (l - mAb pk lv (bO 0) (itn pk s c))
def hft (pk : Nat → Nat) (tv : Nat → Nat → Nat) (nB i : Nat) : Nat := tv i 2 + (if i < nB then lod pk tv (i + 1) else 0)
def brs (pk : Nat → Nat) (tv : Nat → Nat → Nat) (w : Nat) : Nat → Nat → Bool
  | 0, _ => true
  | n + 1, c => if c = 0 then true else decide (lod pk tv c + w ≤ tv (c - 1) 6) && brs pk tv w n (nx pk c)
def hrf (pk : Nat → Nat) (tv : Nat → Nat → Nat) (nB i b : Nat) : Bool :=
  if i < nB then decide (fil pk tv (b + 1) + tv i 0 ≤ rom pk tv b (hlv pk (b + 1) + 1)) && decide (fil pk tv (i + 1) ≤ rom pk tv i (hlv pk (i + 1) + 1)) else decide (fil pk tv (b + 1) + tv i 0 ≤ rom pk tv b (hlv pk (b + 1)))
def rfs (pk lv : Nat → Nat) (tv : Nat → Nat → Nat) (nB i b : Nat) : Int32 :=
  if pk i ≠ 0 then -5 else if 0 < lft pk lv (bO 0) 9 (b + 1) then -5 else if i = b then -8 else if wi pk (i + 1) 8 (b + 1) = true then -8 else if tv b 4 < tv i 1 then -9 else if brs pk tv (hft pk tv nB i) 9 (b + 1) = false then -10 else if hrf pk tv nB i b = false then -11 else 0
theorem itn_le {h : Hp} {r : Nat} {pk lv : Nat → Nat} (Y : LyV h r pk lv) : ∀ (n c : Nat), c ≤ 24 → itn pk n c ≤ 24
  | 0, _, hc => hc
  | n + 1, c, hc => itn_le Y n (nx pk c) (by have := nx_le Y hc; omega)
theorem cnt_le (pk : Nat → Nat) (c : Nat) : cnt pk c ≤ 24 := by
  have : cnt pk c ≤ 24 * 1 := sE_le (fun k _ => by split <;> omega)
  omega
theorem mAb_le (pk lv : Nat → Nat) (g : Nat → Bool) (c : Nat) : mAb pk lv g c ≤ 24 := by
  unfold mAb
  split
  · omega
  · have : sE (fun j => if pk j = nx pk c ∧ lv (c - 1) < lv j ∧ g j = false then 1 else 0) 24 ≤ 24 * 1 := sE_le (fun k _ => by split <;> omega)
    omega
theorem lft_le (pk lv : Nat → Nat) (g : Nat → Bool) : ∀ n c, lft pk lv g n c ≤ 24 * n
  | 0, _ => Nat.le_refl _
  | n + 1, c => by
    have h1 := lft_le pk lv g n (nx pk c)
    have h2 := mAb_le pk lv g c
    unfold lft
    split
    · omega
    · split <;> omega
theorem lod_le {pk : Nat → Nat} {tv : Nat → Nat → Nat} (ht : ∀ i, i < 24 → tv i 2 ≤ 9999) (c : Nat) : lod pk tv c ≤ 239976 := by
  have : lod pk tv c ≤ 24 * 9999 := sE_le (fun k hk => by split; exact ht k hk; omega)
  omega
theorem fil_le {pk : Nat → Nat} {tv : Nat → Nat → Nat} (ht : ∀ i, i < 24 → tv i 0 ≤ 9999) (c : Nat) : fil pk tv c ≤ 239976 := by
  have : fil pk tv c ≤ 24 * 9999 := sE_le (fun k hk => by split; exact ht k hk; omega)
  omega
section LayoutB
variable {E : EnvX} {L : Nat} {h : Hp} {r : Nat} {pk lv : Nat → Nat}
theorem ly_manyAbove (hE : EOk E) (hL : 2 ≤ L) (Y : LyV h r pk lv) {i : Nat} (hi : i < 24) (x : Int32) : RdI E L m_Layout_manyAbove r [.int (nI i), .int x] h (nI (mAb pk lv (bO x) (i + 1))) := by
  obtain ⟨s1, s2, s3, s4, s5, s6, -⟩ := sh_layout Y.1
  have hpi := Y.2.1 i hi
  have hli := Y.2.2 i hi
  refine B_Layout_manyAbove hE (by omega) Y.1 ?_
  have h1 := ly_boxOf hE (L := L - 1) (by omega) Y (c := i + 1) (by omega)
  rw [bx_S] at h1
  refine h1.use ?_
  have en : nx pk (i + 1) = pk i := by simp [nx]
  rw [en, bx_m1 (by omega)]
  unfold mAb
  rw [en]
  refine ⟨fun q => ?_, fun q => ?_⟩
  · rw [if_neg q]
    simp only [Nat.add_sub_cancel]
    refine upto (P := fun k => at_Layout_manyAbove_19 E L r h _ (nI i) x (bx (pk i)) (nI (sE (fun j => if pk j = pk i ∧ lv i < lv j ∧ bO x j = false then 1 else 0) k)) (nI k)) (n := 24) ?_ ?_ 0 (by omega)
    · exact B_Layout_manyAbove_19 (brT (nEnd 24) ⟨rfl, rfl⟩)
    · intro k hk ih
      refine B_Layout_manyAbove_19 (brF (nG 24 hk) ?_)
      have hp := Y.2.1 k hk
      have hl := Y.2.2 k hk
      rw [s1, s2, nIc (by omega), nIc (by omega), hp.1, hl.1, hli.1, nI_1, bx_inj (by omega) (by omega), nIl (by omega) (by omega)]
      refine ⟨inI_of s3 (by omega) (by omega), fun c1 => ?_, fun c1 => ⟨inI_of s5 (by omega) (by omega), inI_of s5 (by omega) (by omega), fun c2 => ?_, fun c2 => ⟨fun c3 => ?_, fun c3 => ?_⟩⟩⟩
      · rw [sE_s _ k] at ih; rw [if_neg (fun z => c1 z.1)] at ih; exact ih
      · rw [sE_s _ k] at ih; rw [if_neg (fun z => by omega)] at ih; exact ih
      · rw [sE_s _ k] at ih; rw [if_neg (fun z => by rw [bO_t c3] at z; cases z.2.2)] at ih; exact ih
      · rw [sE_s _ k] at ih; rw [if_pos ⟨c1, by omega, bO_f c3⟩] at ih; rw [nI_1]; exact ih
  · rw [if_pos q]; exact ⟨rfl, rfl⟩
theorem ly_liftings (hE : EOk E) (hL : 3 ≤ L) (Y : LyV h r pk lv) {c : Nat} (hc : c ≤ 24) (x : Int32) : RdI E L m_Layout_liftings r [.int (bx c), .int x] h (nI (lft pk lv (bO x) 9 c)) := by
  refine B_Layout_liftings hE (by omega) Y.1 ?_
  have main : ∀ n k z c, n + k = 9 → c ≤ 24 → z ≤ 24 * k → at_Layout_liftings_8 E L r h (fun y h' => y = nI (z + lft pk lv (bO x) n c) ∧ h' = h) x (nI z) (bx c) (nI k) := by
    intro n
    induction n with
    | zero =>
      intro k z c hk hc hz
      rw [show k = 9 by omega]
      exact B_Layout_liftings_8 (brT (show nI 8 < nI 9 from nI_lt (by omega) (by omega)) ⟨rfl, rfl⟩)
    | succ n ih =>
      intro k z c hk hc hz
      refine B_Layout_liftings_8 (brF (show ¬ nI 8 < nI k from nI_nlt (by omega) (by omega)) ?_)
      cases c with
      | zero => exact brT (by decide) ⟨by simp [lft], rfl⟩
      | succ i =>
        rw [bx_S]
        refine brF (nIm1 (by omega)) ⟨fun c1 => ?_, fun c1 => ?_⟩
        · refine (ly_manyAbove hE (by omega) Y (i := i) (by omega) x).use ?_
          have h1 := ly_boxOf hE (L := L - 1) (by omega) Y (c := i + 1) (by omega)
          rw [bx_S] at h1
          refine h1.use ?_
          have hm := mAb_le pk lv (bO x) (i + 1)
          have e : z + lft pk lv (bO x) (n + 1) (i + 1) = (z + mAb pk lv (bO x) (i + 1)) + lft pk lv (bO x) n (nx pk (i + 1)) := by
            have hg : ¬ bO x i = true := by rw [bO_f c1]; decide
            simp only [lft, Nat.add_sub_cancel, if_neg (Nat.succ_ne_zero i), if_neg hg]
            omega
          rw [e, nI_1, nI_add]
          exact ih (k + 1) _ _ (by omega) (by have := nx_le Y (c := i + 1) (by omega); omega) (by omega)
        · refine ⟨?_, rfl⟩
          simp only [lft, Nat.add_sub_cancel, if_neg (Nat.succ_ne_zero i), if_pos (bO_t c1), Nat.add_zero]
  have h9 := main 9 0 0 c (by omega) hc (by omega)
  rw [Nat.zero_add] at h9
  exact h9
theorem ly_itemAtLevel (hE : EOk E) (hL : 1 ≤ L) (Y : LyV h r pk lv) {c l : Nat} (hc : c ≤ 24) (hl : l < 2147483648) : RdI E L m_Layout_itemAtLevel r [.int (bx c), .int (nI l)] h (bx (atL pk lv c l)) := by
  obtain ⟨s1, s2, s3, s4, s5, s6, -⟩ := sh_layout Y.1
  refine B_Layout_itemAtLevel hE hL Y.1 ?_
  have main : ∀ n k, n + k = 24 → at_Layout_itemAtLevel_2 E L r h (fun y h' => y = bx (findF (fun i => decide (pk i = c ∧ lv i = l)) n k) ∧ h' = h) (bx c) (nI l) (nI k) := by
    intro n
    induction n with
    | zero =>
      intro k hk
      rw [show k = 24 by omega]
      exact B_Layout_itemAtLevel_2 (brT (nEnd 24) ⟨rfl, rfl⟩)
    | succ n ih =>
      intro k hk
      refine B_Layout_itemAtLevel_2 (brF (nG 24 (by omega)) ?_)
      have hp := Y.2.1 k (by omega)
      have hv := Y.2.2 k (by omega)
      rw [s1, s2, nIc (by omega), hp.1, hv.1, nI_1, bx_inj (by omega) (by omega), nIe (by omega) hl]
      refine ⟨inI_of s3 (by omega) (by omega), fun q => ?_, fun q => ⟨inI_of s5 (by omega) (by omega), fun q2 => ?_, fun q2 => ?_⟩⟩
      · simp only [findF, q, false_and, decide_false, Bool.false_eq_true, if_false]
        exact ih (k + 1) (by omega)
      · simp only [findF, q, q2, and_false, decide_false, Bool.false_eq_true, if_false]
        exact ih (k + 1) (by omega)
      · refine ⟨?_, rfl⟩
        simp only [findF, q, q2, and_self, decide_true, if_true]
        exact (bx_S k).symm
  exact main 24 0 (by omega)
theorem ly_outward (hE : EOk E) (hL : 2 ≤ L) (Y : LyV h r pk lv) {c n : Nat} (hc : c ≤ 24) (hn : n < 2147483648) : RdI E L m_Layout_outward r [.int (bx c), .int (nI n)] h (bx (itn pk n c)) := by
  refine B_Layout_outward hE (by omega) Y.1 ?_
  have main : ∀ m k c, m + k = n → c ≤ 24 → at_Layout_outward_5 E L r h (fun y h' => y = bx (itn pk m c) ∧ h' = h) (nI n) (bx c) (nI k) := by
    intro m
    induction m with
    | zero =>
      intro k c hk hc
      rw [show k = n by omega]
      exact B_Layout_outward_5 (brT (nI_le (Nat.le_refl n) hn) ⟨rfl, rfl⟩)
    | succ m ih =>
      intro k c hk hc
      refine B_Layout_outward_5 (brF (nI_ge (by omega) hn) ((ly_boxOf hE (by omega) Y hc).use ?_))
      rw [nI_1]
      exact ih (k + 1) (nx pk c) (by omega) (by have := nx_le Y hc; omega)
  exact main n 0 c (by omega) hc
theorem dpt_nx {pk : Nat → Nat} : ∀ (n m c : Nat), m < dpt pk n c → nx pk (itn pk m c) ≠ 0
  | 0, m, c, h => absurd h (Nat.not_lt_zero m)
  | n + 1, m, c, h => by
    unfold dpt at h
    split at h
    · omega
    · rename_i q
      cases m with
      | zero => exact q
      | succ m => exact dpt_nx n m (nx pk c) (by omega)
theorem itn_pos {pk : Nat → Nat} (m c : Nat) (h : nx pk (itn pk m c) ≠ 0) : itn pk m c ≠ 0 := by
  intro e
  rw [e] at h
  exact h rfl
theorem ly_itemOver (hE : EOk E) (hL : 3 ≤ L) (Y : LyV h r pk lv) {c k : Nat} (hc : c ≤ 24) (hk : k < 2147483648) : RdI E L m_Layout_itemOver r [.int (bx c), .int (nI k)] h (bx (ovF pk lv c (dpt pk 9 c) k)) := by
  refine B_Layout_itemOver hE (by omega) Y.1 (brT (nI_pos' hk) ((ly_around hE (by omega) Y hc).use ?_))
  have main : ∀ s l, s ≤ dpt pk 9 c → l < 2147483648 → at_Layout_itemOver_17 E L r h (fun y h' => y = bx (ovF pk lv c s l) ∧ h' = h) (bx c) (nI l) (bx s) := by
    intro s
    induction s with
    | zero =>
      intro l hs hl
      exact B_Layout_itemOver_17 (brT (by decide) ⟨rfl, rfl⟩)
    | succ s ih =>
      intro l hs hl
      have hd : dpt pk 9 c ≤ 9 := by
        have : ∀ n c, dpt pk n c ≤ n := by
          intro n
          induction n with
          | zero => intro c; exact Nat.le_refl _
          | succ n ih => intro c; have := ih (nx pk c); unfold dpt; split <;> omega
        exact this 9 c
      have hn0 := dpt_nx (pk := pk) 9 s c (by omega)
      have hi0 := itn_pos s c hn0
      have hi24 := itn_le Y s c hc
      obtain ⟨j, hj⟩ : ∃ j, itn pk s c = j + 1 := ⟨itn pk s c - 1, by omega⟩
      rw [bx_S]
      refine B_Layout_itemOver_17 (brF (nIneg (by omega)) ((ly_outward hE (by omega) Y hc (by omega)).use ?_))
      rw [hj, bx_S]
      refine (ly_manyAbove hE (by omega) Y (i := j) (by omega) 0).use ?_
      have hm := mAb_le pk lv (bO 0) (j + 1)
      rw [nIl (by omega) hl]
      refine ⟨fun q => ?_, fun q => ?_⟩
      · rw [nI_sub q, bx_p]
        have e : ovF pk lv c (s + 1) l = ovF pk lv c s (l - mAb pk lv (bO 0) (j + 1)) := by
          simp only [ovF, hj, if_neg (Nat.not_lt.mpr q)]
        rw [e]
        exact ih _ (by omega) (by omega)
      · have h1 := ly_boxOf hE (L := L - 1) (by omega) Y (c := j + 1) (by omega)
        rw [bx_S] at h1
        refine h1.use (h1.use ?_)
        have hnl := nx_le Y (c := j + 1) (by omega)
        refine (ly_manyIn hE (by omega) Y (c := nx pk (j + 1)) (by omega)).use ?_
        have hcl := cnt_le pk (nx pk (j + 1))
        have hml : mAb pk lv (bO 0) (j + 1) + 1 ≤ cnt pk (nx pk (j + 1)) := by
          rw [hj] at hn0
          unfold mAb cnt
          rw [if_neg hn0]
          have e1 := sE_upd (fun j' => if pk j' = nx pk (j + 1) ∧ lv (j + 1 - 1) < lv j' ∧ bO 0 j' = false then 1 else 0) 1 (i := j) (n := 24) (by omega)
          have e2 : sE (fun k => if k = j then 1 else if pk k = nx pk (j + 1) ∧ lv (j + 1 - 1) < lv k ∧ bO 0 k = false then 1 else 0) 24 ≤ sE (fun i => if pk i = nx pk (j + 1) then 1 else 0) 24 := by
            have : ∀ n, sE (fun k => if k = j then 1 else if pk k = nx pk (j + 1) ∧ lv (j + 1 - 1) < lv k ∧ bO 0 k = false then 1 else 0) n ≤ sE (fun i => if pk i = nx pk (j + 1) then 1 else 0) n := by
              intro n
              induction n with
              | zero => exact Nat.le_refl _
              | succ n ih =>
                simp only [sE]
                have : (if n = j then 1 else if pk n = nx pk (j + 1) ∧ lv (j + 1 - 1) < lv n ∧ bO 0 n = false then 1 else 0) ≤ (if pk n = nx pk (j + 1) then 1 else 0) := by
                  by_cases a : n = j
                  · subst a; simp [nx]
                  · rw [if_neg a]
                    by_cases b : pk n = nx pk (j + 1)
                    · simp [b]; split <;> omega
                    · simp [b]
                omega
            exact this 24
          simp only [Nat.add_sub_cancel, Nat.lt_irrefl, and_false, false_and, if_false, Nat.add_zero] at e1 e2 ⊢
          omega
        rw [show (1 : Int32) = nI 1 from rfl, nI_sub (by omega), nI_sub (by omega)]
        refine (ly_itemAtLevel hE (by omega) Y (by omega) (by omega)).use ⟨?_, rfl⟩
        simp only [ovF, hj, if_pos (Nat.lt_of_not_le q)]
  have h9 := main (dpt pk 9 c) k (Nat.le_refl _) hk
  exact h9
end LayoutB
