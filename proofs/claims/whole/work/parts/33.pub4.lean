section Pub4
variable {E : EnvX} {L : Nat} {h : Hp} {K : Nat} {nB nT : Nat} {tv : Nat → Nat → Nat} {pk lv sn : Nat → Nat} {ck : Nat}
/-- the first k from a on, of n, that p holds at; none: -1 -/
def fstU (p : Nat → Bool) : Nat → Nat → Int32
  | 0, _ => -1
  | n + 1, k => if p k = true then nI k else fstU p n (k + 1)
/-- the last, below n -/
def lstD (p : Nat → Bool) : Nat → Int32
  | 0 => -1
  | n + 1 => if p n = true then nI n else lstD p n
theorem eq_needs (hE : EOk E) (hL : 20 ≤ L) (I : Inv h K) (hK : K + 60 ≤ 100000) (v : Int32) : Same E L m_X_needs m_M_needs [.int v] h K := by
  obtain ⟨nB, nT, tv, pk, lv, sn, ck, hck, C⟩ := I.2.1
  have S := C.1
  have Y := C.2.1
  have h8 := S.2.2.2.1
  by_cases hv : ∃ b, b < nB ∧ v = nI b
  · obtain ⟨b, hb, rfl⟩ := hv
    have y1 := ly_fillOf hE (L := L - 1) (by omega) Y S (c := b + 1) (by omega)
    have y3 := ly_halvedOf hE (L := L - 1) (by omega) Y (c := b + 1) (by omega)
    rw [bx_S] at y1 y3
    have z1 := fun (h : Hp) (M : MdV h nB nT tv pk sn ck) => m_fillOf hE (L := L - 1) (by omega) M (c := b + 1) (by omega) (by omega)
    simp only [bx_S] at z1
    have ht := (C.2.2.2.2.2 b (by omega)).1.1
    have hlvl := hlv_lt pk (b + 1)
    have hfl := fil_le (pk := pk) (tv := tv) (fun i hi => (S.2.2.2.2.2 i 0 hi (by omega)).2) (b + 1)
    have hr : ∀ k, k ≤ 64 → tv b 0 * k ≤ 999 * 64 ∧ tv b 0 * k / 2 ^ hlv pk (b + 1) < 2147483648 := fun k hk => by
      have q1 : tv b 0 * k ≤ 999 * 64 := Nat.mul_le_mul ht hk
      have q2 := Nat.div_le_self (tv b 0 * k) (2 ^ hlv pk (b + 1))
      exact ⟨q1, by omega⟩
    refine same_rd (x := fstU (fun k => decide (fil pk tv (b + 1) ≤ tv b 0 * k / 2 ^ hlv pk (b + 1))) 64 1) I hK (RdX.of I.2.2.2.2.2.2 ?_) (fun h1 e I1 => ?_)
    · refine B_X_needs hE (by omega) ?_
      rw [nI_l (by omega)]
      refine (hasBox_yes hE (by omega) S hb).use (brF' (by decide) (y3.use (y1.use ?_)))
      have main : ∀ n k, n + k = 65 → at_X_needs_36 E L h (fun y h' => y = fstU (fun k => decide (fil pk tv (b + 1) ≤ tv b 0 * k / 2 ^ hlv pk (b + 1))) n k ∧ h' = h) (nI b) (nI (hlv pk (b + 1))) (nI (fil pk tv (b + 1))) (nI k) := by
        intro n
        induction n with
        | zero =>
          intro k hk
          rw [show k = 65 by omega]
          exact B_X_needs_36 (brT (show nI 64 < nI 65 from nI_lt (by omega) (by omega)) ⟨rfl, rfl⟩)
        | succ n ih =>
          intro k hk
          obtain ⟨r1, r2⟩ := hr k (by omega)
          refine B_X_needs_36 (brF (show ¬ nI 64 < nI k from nI_nlt (by omega) (by omega)) ((store_told hE (by omega) S (i := b) (k := 0) (by omega) (by omega)).use ((roomBy_ok hE (by omega) (by omega) (by omega)).use ?_)))
          rw [nIt (by omega) (by omega), nI_1]
          refine ⟨fun q => ?_, fun q => ?_⟩
          · have d : ¬ decide (fil pk tv (b + 1) ≤ tv b 0 * k / 2 ^ hlv pk (b + 1)) = true := by rw [decide_eq_true_eq]; omega
            simp only [fstU, if_neg d]
            exact ih (k + 1) (by omega)
          · have d : decide (fil pk tv (b + 1) ≤ tv b 0 * k / 2 ^ hlv pk (b + 1)) = true := by rw [decide_eq_true_eq]; omega
            refine ⟨?_, rfl⟩
            simp only [fstU, if_pos d]
      exact main 64 1 (by omega)
    · have M : MdV (sI h1 74 0 0) nB nT tv pk sn ck := (C.keep e).2.2.1
      refine B_M_needs hE (by omega) ?_
      rw [nI_l (by omega)]
      refine (m_isBox_yes hE (by omega) M hb).use (brF' (by decide) ?_)
      have main : ∀ n k, n + k = 65 → at_M_needs_19 E L (sI h1 74 0 0) (fun y h' => y = fstU (fun k => decide (fil pk tv (b + 1) ≤ tv b 0 * k / 2 ^ hlv pk (b + 1))) n k ∧ EqS h1 h' ∧ PickZ h') (nI b) (nI k) := by
        intro n
        induction n with
        | zero =>
          intro k hk
          rw [show k = 65 by omega]
          exact B_M_needs_19 (brT (show nI 64 < nI 65 from nI_lt (by omega) (by omega)) ⟨rfl, thr_eq _, I1.2.2.2.2.2.2⟩)
        | succ n ih =>
          intro k hk
          obtain ⟨r1, r2⟩ := hr k (by omega)
          refine B_M_needs_19 (brF (show ¬ nI 64 < nI k from nI_nlt (by omega) (by omega)) ((m_of hE (by omega) M (i := b) (k := 0) (by omega) (by omega)).use ((m_halvedOf hE (by omega) M (by omega)).use ((m_roomBy hE (by omega) (by omega) (by omega)).use ((z1 _ M).use ?_)))))
          rw [nIt (by omega) (by omega), nI_1]
          refine ⟨fun q => ?_, fun q => ?_⟩
          · have d : ¬ decide (fil pk tv (b + 1) ≤ tv b 0 * k / 2 ^ hlv pk (b + 1)) = true := by rw [decide_eq_true_eq]; omega
            simp only [fstU, if_neg d]
            exact ih (k + 1) (by omega)
          · have d : decide (fil pk tv (b + 1) ≤ tv b 0 * k / 2 ^ hlv pk (b + 1)) = true := by rw [decide_eq_true_eq]; omega
            refine ⟨?_, thr_eq _, I1.2.2.2.2.2.2⟩
            simp only [fstU, if_pos d]
      exact main 64 1 (by omega)
  · refine same_rd (x := -2) I hK (RdX.of I.2.2.2.2.2.2 ?_) (fun h1 e I1 => ?_)
    · exact B_X_needs hE (by omega) ((hasBox_no hE (by omega) S (noBox h8 hv)).use (brT' rfl ⟨rfl, rfl⟩))
    · exact B_M_needs hE (by omega) ((m_isBox_no (h := sI h1 74 0 0) hE (by omega) (C.keep e).2.2.1 (noBox h8 hv)).use (brT' rfl ⟨rfl, thr_eq _, I1.2.2.2.2.2.2⟩))
theorem bxneg0 : bx 0 < 0 := by decide
theorem eq_deepest (hE : EOk E) (hL : 20 ≤ L) (I : Inv h K) (hK : K + 60 ≤ 100000) (v : Int32) : Same E L m_X_deepest m_M_deepest [.int v] h K := by
  obtain ⟨nB, nT, tv, pk, lv, sn, ck, hck, C⟩ := I.2.1
  have S := C.1
  have Y := C.2.1
  have h8 := S.2.2.2.1
  by_cases hv : ∃ b, b < nB ∧ v = nI b
  · obtain ⟨b, hb, rfl⟩ := hv
    have y1 := ly_fillOf hE (L := L - 1) (by omega) Y S (c := b + 1) (by omega)
    rw [bx_S] at y1
    have z1 := fun (h : Hp) (M : MdV h nB nT tv pk sn ck) => m_fillOf hE (L := L - 1) (by omega) M (c := b + 1) (by omega) (by omega)
    simp only [bx_S] at z1
    have ht := (C.2.2.2.2.2 b (by omega)).1
    have hfl := fil_le (pk := pk) (tv := tv) (fun i hi => (S.2.2.2.2.2 i 0 hi (by omega)).2) (b + 1)
    have q1 : tv b 0 * tv b 5 ≤ 999 * 64 := Nat.mul_le_mul ht.1 ht.2.2.2.2.2.1
    have hr : ∀ k, tv b 0 * tv b 5 / 2 ^ k < 2147483648 := fun k => by
      have q2 := Nat.div_le_self (tv b 0 * tv b 5) (2 ^ k)
      omega
    refine same_rd (x := lstD (fun k => decide (fil pk tv (b + 1) ≤ tv b 0 * tv b 5 / 2 ^ k)) 10) I hK (RdX.of I.2.2.2.2.2.2 ?_) (fun h1 e I1 => ?_)
    · refine B_X_deepest hE (by omega) ?_
      rw [nI_l (by omega)]
      refine (hasBox_yes hE (by omega) S hb).use (brF' (by decide) (y1.use ?_))
      have main : ∀ n, n ≤ 10 → at_X_deepest_27 E L h (fun y h' => y = lstD (fun k => decide (fil pk tv (b + 1) ≤ tv b 0 * tv b 5 / 2 ^ k)) n ∧ h' = h) (nI b) (nI (fil pk tv (b + 1))) (bx n) := by
        intro n
        induction n with
        | zero => intro _; exact B_X_deepest_27 (brT bxneg0 ⟨rfl, rfl⟩)
        | succ n ih =>
          intro hn
          have r2 := hr n
          rw [bx_S]
          refine B_X_deepest_27 (brF (nIneg (by omega)) ((store_roomOf hE (by omega) S (by omega) (by omega)).use ?_))
          rw [nIt (by omega) (by omega), bx_p]
          refine ⟨fun q => ?_, fun q => ?_⟩
          · have d : ¬ decide (fil pk tv (b + 1) ≤ tv b 0 * tv b 5 / 2 ^ n) = true := by rw [decide_eq_true_eq]; omega
            simp only [lstD, if_neg d]
            exact ih (by omega)
          · have d : decide (fil pk tv (b + 1) ≤ tv b 0 * tv b 5 / 2 ^ n) = true := by rw [decide_eq_true_eq]; omega
            refine ⟨?_, rfl⟩
            simp only [lstD, if_pos d]
      exact main 10 (by omega)
    · have M : MdV (sI h1 74 0 0) nB nT tv pk sn ck := (C.keep e).2.2.1
      refine B_M_deepest hE (by omega) ?_
      rw [nI_l (by omega)]
      refine (m_isBox_yes hE (by omega) M hb).use (brF' (by decide) ?_)
      have main : ∀ n, n ≤ 10 → at_M_deepest_20 E L (sI h1 74 0 0) (fun y h' => y = lstD (fun k => decide (fil pk tv (b + 1) ≤ tv b 0 * tv b 5 / 2 ^ k)) n ∧ EqS h1 h' ∧ PickZ h') (nI b) (bx n) := by
        intro n
        induction n with
        | zero => intro _; exact B_M_deepest_20 (brT bxneg0 ⟨rfl, thr_eq _, I1.2.2.2.2.2.2⟩)
        | succ n ih =>
          intro hn
          have r2 := hr n
          rw [bx_S]
          refine B_M_deepest_20 (brF (nIneg (by omega)) ((m_of hE (by omega) M (i := b) (k := 0) (by omega) (by omega)).use ((m_of hE (by omega) M (i := b) (k := 5) (by omega) (by omega)).use ((m_roomBy hE (by omega) (by omega) (by omega)).use ((z1 _ M).use ?_)))))
          rw [nIt (by omega) (by omega), bx_p]
          refine ⟨fun q => ?_, fun q => ?_⟩
          · have d : ¬ decide (fil pk tv (b + 1) ≤ tv b 0 * tv b 5 / 2 ^ n) = true := by rw [decide_eq_true_eq]; omega
            simp only [lstD, if_neg d]
            exact ih (by omega)
          · have d : decide (fil pk tv (b + 1) ≤ tv b 0 * tv b 5 / 2 ^ n) = true := by rw [decide_eq_true_eq]; omega
            refine ⟨?_, thr_eq _, I1.2.2.2.2.2.2⟩
            simp only [lstD, if_pos d]
      exact main 10 (by omega)
  · refine same_rd (x := -2) I hK (RdX.of I.2.2.2.2.2.2 ?_) (fun h1 e I1 => ?_)
    · exact B_X_deepest hE (by omega) ((hasBox_no hE (by omega) S (noBox h8 hv)).use (brT' rfl ⟨rfl, rfl⟩))
    · exact B_M_deepest hE (by omega) ((m_isBox_no (h := sI h1 74 0 0) hE (by omega) (C.keep e).2.2.1 (noBox h8 hv)).use (brT' rfl ⟨rfl, thr_eq _, I1.2.2.2.2.2.2⟩))
/-! takes alone -/
def tkA (tv : Nat → Nat → Nat) (nB i b : Nat) : Bool := decide (tv i 1 ≤ tv b 4) && (decide (tv i 2 ≤ tv b 6) && decide (tv i 0 ≤ tv b 0 * tv b 5 / 2 ^ (if i < nB then 1 else 0)))
theorem store_takesAlone (hE : EOk E) (hL : 3 ≤ L) {r : Nat} (S : StV h r nB nT tv) {i b : Nat} (hi : i < 24) (hb : b < 24) : RdI E L m_Store_takesAlone r [.int (nI i), .int (nI b)] h (if tkA tv nB i b = true then 1 else 0) := by
  have ht : ∀ i k, i < 24 → k < 7 → tv i k ≤ 9999 := fun i k hi hk => (S.2.2.2.2.2 i k hi hk).2
  have a0 := ht i 0 hi (by omega)
  have a1 := ht i 1 hi (by omega)
  have a2 := ht i 2 hi (by omega)
  have b4 := ht b 4 hb (by omega)
  have b6 := ht b 6 hb (by omega)
  have hm : tv b 0 * tv b 5 ≤ 9999 * 9999 := Nat.mul_le_mul (ht b 0 hb (by omega)) (ht b 5 hb (by omega))
  have hr : ∀ k, tv b 0 * tv b 5 / 2 ^ k < 2147483648 := fun k => by
    have q2 := Nat.div_le_self (tv b 0 * tv b 5) (2 ^ k)
    omega
  refine B_Store_takesAlone hE (by omega) S.1 ((hasBoxI hE (by omega) S hi).use ?_)
  have t1 := store_told hE (L := L - 1) (by omega) S (i := i) (k := 1) hi (by omega)
  have t2 := store_told hE (L := L - 1) (by omega) S (i := b) (k := 4) hb (by omega)
  have t3 := store_told hE (L := L - 1) (by omega) S (i := i) (k := 2) hi (by omega)
  have t4 := store_told hE (L := L - 1) (by omega) S (i := b) (k := 6) hb (by omega)
  have t5 := store_told hE (L := L - 1) (by omega) S (i := i) (k := 0) hi (by omega)
  have fin : ∀ (m : Nat), m = (if i < nB then 1 else 0) → m < 31 → ((nI (tv b 4) < nI (tv i 1) → (0 : Int32) = (if tkA tv nB i b = true then 1 else 0) ∧ h = h) ∧ (¬ nI (tv b 4) < nI (tv i 1) → ConI E (L - 1) m_Store_told r [.int (nI i), .int 2] h (fun y8 h7 => ConI E (L - 1) m_Store_told r [.int (nI b), .int 6] h7 (fun y10 h9 => ((y10 < y8 → (0 : Int32) = (if tkA tv nB i b = true then 1 else 0) ∧ h9 = h) ∧ (¬ y10 < y8 → ConI E (L - 1) m_Store_told r [.int (nI i), .int 0] h9 (fun y12 h11 => ConI E (L - 1) m_Store_roomOf r [.int (nI b), .int (nI m)] h11 (fun y14 h13 => ((y14 < y12 → (0 : Int32) = (if tkA tv nB i b = true then 1 else 0) ∧ h13 = h) ∧ (¬ y14 < y12 → (1 : Int32) = (if tkA tv nB i b = true then 1 else 0) ∧ h13 = h)))))))))) := by
    intro m em hm31
    have r2 := hr m
    unfold tkA
    rw [← em, nIt (by omega) (by omega)]
    refine ⟨fun c1 => ?_, fun c1 => t3.use (t4.use ?_)⟩
    · rw [decide_eq_false (show ¬ tv i 1 ≤ tv b 4 by omega)]; exact ⟨rfl, rfl⟩
    · rw [decide_eq_true (show tv i 1 ≤ tv b 4 by omega), nIt (by omega) (by omega)]
      refine ⟨fun c2 => ?_, fun c2 => t5.use ((store_roomOf hE (by omega) S hb hm31).use ?_)⟩
      · rw [decide_eq_false (show ¬ tv i 2 ≤ tv b 6 by omega)]; exact ⟨rfl, rfl⟩
      · rw [decide_eq_true (show tv i 2 ≤ tv b 6 by omega), nIt (by omega) (by omega)]
        refine ⟨fun c3 => ?_, fun c3 => ?_⟩
        · rw [decide_eq_false (show ¬ tv i 0 ≤ tv b 0 * tv b 5 / 2 ^ m by omega)]; exact ⟨rfl, rfl⟩
        · rw [decide_eq_true (show tv i 0 ≤ tv b 0 * tv b 5 / 2 ^ m by omega)]; exact ⟨rfl, rfl⟩
  by_cases c : i < nB
  · rw [if_pos c]
    exact brF (by decide) (t1.use (t2.use (fin 1 (by rw [if_pos c]) (by omega))))
  · rw [if_neg c]
    exact brT rfl (t1.use (t2.use (fin 0 (by rw [if_neg c]) (by omega))))
/-- the lightest box so far, as a code -/
def lgt (tv : Nat → Nat → Nat) (nB i : Nat) : Nat → Nat
  | 0 => 0
  | k + 1 => if k ≠ i ∧ tkA tv nB i k = true ∧ (lgt tv nB i k = 0 ∨ tv k 2 < tv (lgt tv nB i k - 1) 2) then k + 1 else lgt tv nB i k
theorem lgt_le (tv : Nat → Nat → Nat) (nB i : Nat) : ∀ k, lgt tv nB i k ≤ k
  | 0 => Nat.le_refl _
  | k + 1 => by
    have := lgt_le tv nB i k
    unfold lgt
    split <;> omega
theorem eq_lightestFor (hE : EOk E) (hL : 20 ≤ L) (I : Inv h K) (hK : K + 60 ≤ 100000) (v : Int32) : Same E L m_X_lightestFor m_M_lightestFor [.int v] h K := by
  obtain ⟨nB, nT, tv, pk, lv, sn, ck, hck, C⟩ := I.2.1
  have S := C.1
  have h8 := S.2.2.2.1
  have h16 := S.2.2.2.2.1
  have ht : ∀ i k, i < 24 → k < 7 → tv i k ≤ 9999 := fun i k hi hk => (S.2.2.2.2.2 i k hi hk).2
  by_cases hv : ∃ i, isIt nB nT i ∧ v = nI i
  · obtain ⟨i, hi, rfl⟩ := hv
    have hi24 : i < 24 := by rcases hi with q | q <;> omega
    have hi8 : i < nB ↔ i < 8 := by rcases hi with q | q <;> omega
    refine same_rd (x := bx (lgt tv nB i nB)) I hK (RdX.of I.2.2.2.2.2.2 ?_) (fun h1 e I1 => ?_)
    · refine B_X_lightestFor hE (by omega) ?_
      rw [nI_l (by omega)]
      refine (hasItem_yes hE (by omega) S hi).use (brF' (by decide) ?_)
      refine upto (P := fun k => at_X_lightestFor_19 E L h (fun y h' => y = bx (lgt tv nB i nB) ∧ h' = h) (nI i) (bx (lgt tv nB i k)) (nI k)) (n := nB) ?_ ?_ 0 (by omega)
      · exact B_X_lightestFor_19 ((store_boxes hE (by omega) S).use (brT (nI_le (Nat.le_refl _) (by omega)) ⟨rfl, rfl⟩))
      · intro k hk ih
        have hk24 : k < 24 := by omega
        have hl := lgt_le tv nB i k
        have t1 := store_takesAlone hE (L := L - 1) (by omega) S hi24 hk24
        refine B_X_lightestFor_19 ((store_boxes hE (by omega) S).use (brF (nI_ge hk (by omega)) ?_))
        rw [nI_1, nIe (by omega) (by omega), bx_m1 (by omega)]
        have no : ¬ (k ≠ i ∧ tkA tv nB i k = true ∧ (lgt tv nB i k = 0 ∨ tv k 2 < tv (lgt tv nB i k - 1) 2)) → at_X_lightestFor_19 E L h (fun y h' => y = bx (lgt tv nB i nB) ∧ h' = h) (nI i) (bx (lgt tv nB i k)) (nI (k + 1)) := by
          intro z
          simp only [lgt, if_neg z] at ih
          exact ih
        have yes : (k ≠ i ∧ tkA tv nB i k = true ∧ (lgt tv nB i k = 0 ∨ tv k 2 < tv (lgt tv nB i k - 1) 2)) → at_X_lightestFor_19 E L h (fun y h' => y = bx (lgt tv nB i nB) ∧ h' = h) (nI i) (nI k) (nI (k + 1)) := by
          intro z
          simp only [lgt, if_pos z, bx_S] at ih
          exact ih
        have go : (lgt tv nB i k = 0 ∨ tv k 2 < tv (lgt tv nB i k - 1) 2) → ((k = i → at_X_lightestFor_19 E L h (fun y h' => y = bx (lgt tv nB i nB) ∧ h' = h) (nI i) (bx (lgt tv nB i k)) (nI (k + 1))) ∧ (¬ k = i → ConI E (L - 1) m_Store_takesAlone 1 [.int (nI i), .int (nI k)] h (fun y6 h5 => ((y6 = 0 → at_X_lightestFor_19 E L h5 (fun y h' => y = bx (lgt tv nB i nB) ∧ h' = h) (nI i) (bx (lgt tv nB i k)) (nI (k + 1))) ∧ (¬ y6 = 0 → at_X_lightestFor_19 E L h5 (fun y h' => y = bx (lgt tv nB i nB) ∧ h' = h) (nI i) (nI k) (nI (k + 1))))))) := by
          intro z
          refine ⟨fun c => no (fun w => w.1 c), fun c => t1.use ?_⟩
          by_cases d : tkA tv nB i k = true
          · rw [if_pos d]; exact brF (by decide) (yes ⟨c, d, z⟩)
          · rw [if_neg d]; exact brT rfl (no (fun w => d w.2.1))
        refine ⟨fun c => brF (by decide) (go (Or.inl c)), fun c => ?_⟩
        obtain ⟨m, hm⟩ : ∃ m, lgt tv nB i k = m + 1 := ⟨lgt tv nB i k - 1, by omega⟩
        have a1 := ht k 2 hk24 (by omega)
        have a2 := ht m 2 (by omega) (by omega)
        rw [hm, bx_S]
        rw [hm, bx_S, Nat.add_sub_cancel] at go no
        refine (store_told hE (by omega) S (i := k) (k := 2) hk24 (by omega)).use ((store_told hE (by omega) S (i := m) (k := 2) (by omega) (by omega)).use ?_)
        rw [nIl (by omega) (by omega)]
        refine ⟨fun d => brT rfl (no (fun w => by omega)), fun d => brF (by decide) (go (Or.inr (by omega)))⟩
    · have M : MdV (sI h1 74 0 0) nB nT tv pk sn ck := (C.keep e).2.2.1
      refine B_M_lightestFor hE (by omega) ?_
      rw [nI_l (by omega)]
      refine (m_isItem_yes hE (by omega) M hi).use (brF' (by decide) ?_)
      refine upto (P := fun k => at_M_lightestFor_21 E L (sI h1 74 0 0) (fun y h' => y = bx (lgt tv nB i nB) ∧ EqS h1 h' ∧ PickZ h') (nI i) (bx (lgt tv nB i k)) (nI k)) (n := nB) ?_ ?_ 0 (by omega)
      · refine B_M_lightestFor_21 ⟨in75 (k := 0) (by omega), brT ?_ ⟨rfl, thr_eq _, I1.2.2.2.2.2.2⟩⟩
        rw [show (0 : Int32).toNatClampNeg = 0 from rfl, M.2.1.1]; exact nI_le (Nat.le_refl _) (by omega)
      · intro k hk ih
        have hk24 : k < 24 := by omega
        have hl := lgt_le tv nB i k
        have no : ¬ (k ≠ i ∧ tkA tv nB i k = true ∧ (lgt tv nB i k = 0 ∨ tv k 2 < tv (lgt tv nB i k - 1) 2)) → at_M_lightestFor_21 E L (sI h1 74 0 0) (fun y h' => y = bx (lgt tv nB i nB) ∧ EqS h1 h' ∧ PickZ h') (nI i) (bx (lgt tv nB i k)) (nI (k + 1)) := by
          intro z
          simp only [lgt, if_neg z] at ih
          exact ih
        have yes : (k ≠ i ∧ tkA tv nB i k = true ∧ (lgt tv nB i k = 0 ∨ tv k 2 < tv (lgt tv nB i k - 1) 2)) → at_M_lightestFor_21 E L (sI h1 74 0 0) (fun y h' => y = bx (lgt tv nB i nB) ∧ EqS h1 h' ∧ PickZ h') (nI i) (nI k) (nI (k + 1)) := by
          intro z
          simp only [lgt, if_pos z, bx_S] at ih
          exact ih
        have a0 := ht i 0 hi24 (by omega)
        have a1 := ht i 1 hi24 (by omega)
        have a2 := ht i 2 hi24 (by omega)
        have b4 := ht k 4 hk24 (by omega)
        have b6 := ht k 6 hk24 (by omega)
        have b2 := ht k 2 hk24 (by omega)
        have hm : tv k 0 * tv k 5 ≤ 9999 * 9999 := Nat.mul_le_mul (ht k 0 hk24 (by omega)) (ht k 5 hk24 (by omega))
        have hr : ∀ j, tv k 0 * tv k 5 / 2 ^ j < 2147483648 := fun j => by
          have q2 := Nat.div_le_self (tv k 0 * tv k 5) (2 ^ j)
          omega
        refine B_M_lightestFor_21 ⟨in75 (k := 0) (by omega), ?_⟩
        rw [show (0 : Int32).toNatClampNeg = 0 from rfl, M.2.1.1]
        refine brF (nI_ge hk (by omega)) ?_
        rw [nI_1, nIe (by omega) (by omega)]
        refine ⟨fun c => no (fun w => w.1 c), fun c => (m_of hE (by omega) M (i := i) (k := 1) hi24 (by omega)).use ((m_of hE (by omega) M (i := k) (k := 4) hk24 (by omega)).use ?_)⟩
        rw [nIt (by omega) (by omega)]
        refine ⟨fun c1 => no (fun w => ?_), fun c1 => (m_of hE (by omega) M (i := i) (k := 2) hi24 (by omega)).use ((m_of hE (by omega) M (i := k) (k := 6) hk24 (by omega)).use ?_)⟩
        · have w2 := w.2.1; unfold tkA at w2; rw [decide_eq_false (show ¬ tv i 1 ≤ tv k 4 by omega)] at w2; cases w2
        rw [nIt (by omega) (by omega)]
        refine ⟨fun c2 => no (fun w => ?_), fun c2 => (m_of hE (by omega) M (i := i) (k := 0) hi24 (by omega)).use ((m_of hE (by omega) M (i := k) (k := 0) hk24 (by omega)).use ((m_of hE (by omega) M (i := k) (k := 5) hk24 (by omega)).use ?_))⟩
        · have w2 := w.2.1; unfold tkA at w2; rw [decide_eq_true (show tv i 1 ≤ tv k 4 by omega), decide_eq_false (show ¬ tv i 2 ≤ tv k 6 by omega)] at w2; cases w2
        have last : ∀ m, m = (if i < nB then 1 else 0) → m < 31 → ConI E (L - 1) m_M_roomBy 0 [.int (nI (tv k 0)), .int (nI (tv k 5)), .int (nI m)] (sI h1 74 0 0) (fun y18 h17 => ((nI (tv i 0) ≤ y18 → ((bx (lgt tv nB i k) = (-1) → at_M_lightestFor_21 E L h17 (fun y h' => y = bx (lgt tv nB i nB) ∧ EqS h1 h' ∧ PickZ h') (nI i) (nI k) (nI (k + 1))) ∧ (¬ bx (lgt tv nB i k) = (-1) → ConI E (L - 1) m_M_of 74 [.int (nI k), .int 2] h17 (fun y20 h19 => ConI E (L - 1) m_M_of 74 [.int (bx (lgt tv nB i k)), .int 2] h19 (fun y22 h21 => ((y22 ≤ y20 → at_M_lightestFor_21 E L h21 (fun y h' => y = bx (lgt tv nB i nB) ∧ EqS h1 h' ∧ PickZ h') (nI i) (bx (lgt tv nB i k)) (nI (k + 1))) ∧ (¬ y22 ≤ y20 → at_M_lightestFor_21 E L h21 (fun y h' => y = bx (lgt tv nB i nB) ∧ EqS h1 h' ∧ PickZ h') (nI i) (nI k) (nI (k + 1)))))))) ) ∧ (¬ nI (tv i 0) ≤ y18 → at_M_lightestFor_21 E L h17 (fun y h' => y = bx (lgt tv nB i nB) ∧ EqS h1 h' ∧ PickZ h') (nI i) (bx (lgt tv nB i k)) (nI (k + 1))))) := by
          intro m em hm31
          have r2 := hr m
          refine (m_roomBy hE (by omega) (by omega) (by omega)).use ?_
          rw [nIl (by omega) (by omega), bx_m1 (by omega)]
          refine ⟨fun c3 => ?_, fun c3 => no (fun w => ?_)⟩
          · have ta : tkA tv nB i k = true := by
              unfold tkA
              rw [← em, decide_eq_true (show tv i 1 ≤ tv k 4 by omega), decide_eq_true (show tv i 2 ≤ tv k 6 by omega), decide_eq_true c3]; rfl
            refine ⟨fun d => yes ⟨c, ta, Or.inl d⟩, fun d => ?_⟩
            obtain ⟨m, hm⟩ : ∃ m, lgt tv nB i k = m + 1 := ⟨lgt tv nB i k - 1, by omega⟩
            have a2 := ht m 2 (by omega) (by omega)
            rw [hm, bx_S]
            rw [hm, Nat.add_sub_cancel] at yes no
            rw [bx_S] at no
            refine (m_of hE (by omega) M (i := k) (k := 2) hk24 (by omega)).use ((m_of hE (by omega) M (i := m) (k := 2) (by omega) (by omega)).use ?_)
            rw [nIl (by omega) (by omega)]
            exact ⟨fun q => no (fun w => by omega), fun q => yes ⟨c, ta, Or.inr (by omega)⟩⟩
          · have w2 := w.2.1; unfold tkA at w2; rw [← em, decide_eq_true (show tv i 1 ≤ tv k 4 by omega), decide_eq_true (show tv i 2 ≤ tv k 6 by omega), decide_eq_false c3] at w2; cases w2
        by_cases c7 : i < 8
        · exact brF (nG 8 c7) (last 1 (by rw [if_pos (hi8.mpr c7)]) (by omega))
        · exact brT (nLe 8 (by omega) (by omega)) (last 0 (by rw [if_neg (fun z => c7 (hi8.mp z))]) (by omega))
  · refine same_rd (x := -2) I hK (RdX.of I.2.2.2.2.2.2 ?_) (fun h1 e I1 => ?_)
    · exact B_X_lightestFor hE (by omega) ((hasItem_no hE (by omega) S (noItem h8 h16 hv)).use (brT' rfl ⟨rfl, rfl⟩))
    · exact B_M_lightestFor hE (by omega) ((m_isItem_no (h := sI h1 74 0 0) hE (by omega) (C.keep e).2.2.1 (noItem h8 h16 hv)).use (brT' rfl ⟨rfl, thr_eq _, I1.2.2.2.2.2.2⟩))
end Pub4
