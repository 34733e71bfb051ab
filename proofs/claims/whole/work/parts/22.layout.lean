/-! ===== where all lies: pure words, and what the methods of Layout answer ===== -/
/-- codes: 0 the floor (or none), i + 1 the item i; the box around, as a code -/
def nx (pk : Nat → Nat) (c : Nat) : Nat := if c = 0 then 0 else pk (c - 1)
def wi (pk : Nat → Nat) (d : Nat) : Nat → Nat → Bool
  | 0, _ => false
  | n + 1, c => if c = 0 then false else if nx pk c = d then true else wi pk d n (nx pk c)
def dpt (pk : Nat → Nat) : Nat → Nat → Nat
  | 0, _ => 0
  | n + 1, c => if nx pk c = 0 then 0 else 1 + dpt pk n (nx pk c)
def mAb (pk lv : Nat → Nat) (g : Nat → Bool) (c : Nat) : Nat := if nx pk c = 0 then 0 else sE (fun j => if pk j = nx pk c ∧ lv (c - 1) < lv j ∧ g j = false then 1 else 0) 24
def lft (pk lv : Nat → Nat) (g : Nat → Bool) : Nat → Nat → Nat
  | 0, _ => 0
  | n + 1, c => if c = 0 then 0 else if g (c - 1) = true then 0 else mAb pk lv g c + lft pk lv g n (nx pk c)
def fil (pk : Nat → Nat) (tv : Nat → Nat → Nat) (c : Nat) : Nat := sE (fun i => if pk i = c then tv i 0 else 0) 24
def cnt (pk : Nat → Nat) (c : Nat) : Nat := sE (fun i => if pk i = c then 1 else 0) 24
def hlv (pk : Nat → Nat) (c : Nat) : Nat := (if nx pk c = 0 then 0 else 1) + sE (fun i => if pk i = c then 1 else 0) 8
def lod (pk : Nat → Nat) (tv : Nat → Nat → Nat) (c : Nat) : Nat := sE (fun i => if wi pk c 8 (i + 1) = true then tv i 2 else 0) 24
def rom (pk : Nat → Nat) (tv : Nat → Nat → Nat) (b hv : Nat) : Nat := tv b 0 * tv b 5 / 2 ^ hv
def LyV (h : Hp) (r : Nat) (pk lv : Nat → Nat) : Prop :=
  cls r = 2 ∧ (∀ i, i < 24 → h.2.1 (r + 1) i = bx (pk i) ∧ pk i ≤ 8) ∧ (∀ i, i < 24 → h.2.1 (r + 2) i = nI (lv i) ∧ lv i ≤ 24)
theorem LyV.keep {h h' : Hp} {r : Nat} {pk lv : Nat → Nat} (Y : LyV h r pk lv) {F : Nat → Prop} (e : EqO F h h') (h1 : ¬ F (r + 1)) (h2 : ¬ F (r + 2)) : LyV h' r pk lv := by
  obtain ⟨a, b, c⟩ := Y
  unfold LyV
  rw [(e (r + 1) h1).2.1, (e (r + 2) h2).2.1]
  exact ⟨a, b, c⟩
theorem nx_le {h : Hp} {r : Nat} {pk lv : Nat → Nat} (Y : LyV h r pk lv) {c : Nat} (hc : c ≤ 24) : nx pk c ≤ 8 := by
  unfold nx
  split
  · omega
  · exact (Y.2.1 (c - 1) (by omega)).2
section LayoutA
variable {E : EnvX} {L : Nat} {h : Hp} {r : Nat} {pk lv : Nat → Nat}
theorem ly_boxOf (hE : EOk E) (hL : 1 ≤ L) (Y : LyV h r pk lv) {c : Nat} (hc : c ≤ 24) : RdI E L m_Layout_boxOf r [.int (bx c)] h (bx (nx pk c)) := by
  obtain ⟨s1, s2, s3, s4, -⟩ := sh_layout Y.1
  refine B_Layout_boxOf hE hL Y.1 ?_
  cases c with
  | zero => exact brT (by decide) ⟨rfl, rfl⟩
  | succ i =>
    rw [bx_S, s1, nIc (by omega), (Y.2.1 i (by omega)).1]
    exact brF (nIneg (by omega)) (brF (nG 24 (by omega)) ⟨inI_of s3 (by omega) (by omega), rfl, rfl⟩)
theorem ly_manyIn (hE : EOk E) (hL : 1 ≤ L) (Y : LyV h r pk lv) {c : Nat} (hc : c ≤ 24) : RdI E L m_Layout_manyIn r [.int (bx c)] h (nI (cnt pk c)) := by
  obtain ⟨s1, s2, s3, s4, -⟩ := sh_layout Y.1
  refine B_Layout_manyIn hE hL Y.1 ?_
  refine upto (P := fun k => at_Layout_manyIn_4 E L r h _ (bx c) (nI (sE (fun i => if pk i = c then 1 else 0) k)) (nI k)) (n := 24) ?_ ?_ 0 (by omega)
  · exact B_Layout_manyIn_4 (brT (nEnd 24) ⟨rfl, rfl⟩)
  · intro k hk ih
    refine B_Layout_manyIn_4 (brF (nG 24 hk) ?_)
    have hp := Y.2.1 k hk
    rw [s1, nIc (by omega), hp.1, nI_1, bx_inj (by omega) (by omega)]
    refine ⟨inI_of s3 (by omega) (by omega), fun q => ?_, fun q => ?_⟩
    · simp only [sE, if_neg q] at ih; exact ih
    · simp only [sE, if_pos q] at ih; rw [nI_1]; exact ih
theorem ly_manyPacked (hE : EOk E) (hL : 2 ≤ L) (Y : LyV h r pk lv) : RdI E L m_Layout_manyPacked r [] h (nI (24 - cnt pk 0)) := by
  refine B_Layout_manyPacked hE (by omega) Y.1 ((ly_manyIn hE (by omega) Y (c := 0) (by omega)).use ?_)
  have hle : cnt pk 0 ≤ 24 * 1 := sE_le (fun k _ => by split <;> omega)
  rw [show (24 : Int32) = nI 24 from rfl, nI_sub (by omega)]
  exact ⟨rfl, rfl⟩
theorem ly_fillOf (hE : EOk E) (hL : 2 ≤ L) (Y : LyV h r pk lv) {nB nT : Nat} {tv : Nat → Nat → Nat} (S : StV h (rf r 0) nB nT tv) {c : Nat} (hc : c ≤ 24) : RdI E L m_Layout_fillOf r [.int (bx c)] h (nI (fil pk tv c)) := by
  obtain ⟨s1, s2, s3, s4, -⟩ := sh_layout Y.1
  refine B_Layout_fillOf hE (by omega) Y.1 ?_
  refine upto (P := fun k => at_Layout_fillOf_4 E L r h _ (bx c) (nI (sE (fun i => if pk i = c then tv i 0 else 0) k)) (nI k)) (n := 24) ?_ ?_ 0 (by omega)
  · exact B_Layout_fillOf_4 (brT (nEnd 24) ⟨rfl, rfl⟩)
  · intro k hk ih
    refine B_Layout_fillOf_4 (brF (nG 24 hk) ?_)
    have hp := Y.2.1 k hk
    rw [s1, nIc (by omega), hp.1, nI_1, bx_inj (by omega) (by omega)]
    refine ⟨inI_of s3 (by omega) (by omega), fun q => ?_, fun q => ?_⟩
    · simp only [sE, if_neg q] at ih; exact ih
    · refine (store_told hE (by omega) S (i := k) (k := 0) hk (by omega)).use ?_
      simp only [sE, if_pos q] at ih; rw [nI_add]; exact ih
theorem ly_worthPacked (hE : EOk E) (hL : 2 ≤ L) (Y : LyV h r pk lv) {nB nT : Nat} {tv : Nat → Nat → Nat} (S : StV h (rf r 0) nB nT tv) : RdI E L m_Layout_worthPacked r [] h (nI (sE (fun i => if pk i = 0 then 0 else tv i 3) 24)) := by
  obtain ⟨s1, s2, s3, s4, -⟩ := sh_layout Y.1
  refine B_Layout_worthPacked hE (by omega) Y.1 ?_
  refine upto (P := fun k => at_Layout_worthPacked_4 E L r h _ (nI (sE (fun i => if pk i = 0 then 0 else tv i 3) k)) (nI k)) (n := 24) ?_ ?_ 0 (by omega)
  · exact B_Layout_worthPacked_4 (brT (nEnd 24) ⟨rfl, rfl⟩)
  · intro k hk ih
    refine B_Layout_worthPacked_4 (brF (nG 24 hk) ?_)
    have hp := Y.2.1 k hk
    rw [s1, nIc (by omega), hp.1, nI_1, bx_m1 (by omega)]
    refine ⟨inI_of s3 (by omega) (by omega), fun q => ?_, fun q => ?_⟩
    · simp only [sE, if_pos q] at ih; exact ih
    · refine (store_told hE (by omega) S (i := k) (k := 3) hk (by omega)).use ?_
      simp only [sE, if_neg q] at ih; rw [nI_add]; exact ih
theorem ly_halvedOf (hE : EOk E) (hL : 2 ≤ L) (Y : LyV h r pk lv) {c : Nat} (hc : c ≤ 24) : RdI E L m_Layout_halvedOf r [.int (bx c)] h (nI (hlv pk c)) := by
  obtain ⟨s1, s2, s3, s4, -⟩ := sh_layout Y.1
  have main : ∀ z : Nat, at_Layout_halvedOf_17 E L r h (fun y h' => y = nI (z + sE (fun i => if pk i = c then 1 else 0) 8) ∧ h' = h) (bx c) (nI z) 0 := by
    intro z
    refine upto (P := fun k => at_Layout_halvedOf_17 E L r h _ (bx c) (nI (z + sE (fun i => if pk i = c then 1 else 0) k)) (nI k)) (n := 8) ?_ ?_ 0 (by omega)
    · exact B_Layout_halvedOf_17 (brT (nEnd 8) ⟨rfl, rfl⟩)
    · intro k hk ih
      refine B_Layout_halvedOf_17 (brF (nG 8 hk) ?_)
      have hp := Y.2.1 k (by omega)
      rw [s1, nIc (by omega), hp.1, nI_1, bx_inj (by omega) (by omega)]
      refine ⟨inI_of s3 (by omega) (by omega), fun q => ?_, fun q => ?_⟩
      · simp only [sE, if_neg q] at ih; exact ih
      · simp only [sE, if_pos q] at ih; rw [nI_1]; exact ih
  refine B_Layout_halvedOf hE (by omega) Y.1 ((ly_boxOf hE (by omega) Y hc).use ?_)
  rw [bx_m1 (by have := nx_le Y hc; omega)]
  unfold hlv
  refine ⟨fun q => ?_, fun q => ?_⟩
  · rw [if_neg q]; exact main 1
  · rw [if_pos q]; exact main 0
theorem ly_roomOf (hE : EOk E) (hL : 3 ≤ L) (Y : LyV h r pk lv) {nB nT : Nat} {tv : Nat → Nat → Nat} (S : StV h (rf r 0) nB nT tv) {b : Nat} (hb : b < 24) : RdI E L m_Layout_roomOf r [.int (nI b)] h (nI (rom pk tv b (hlv pk (b + 1)))) := by
  have hle : sE (fun i => if pk i = b + 1 then 1 else 0) 8 ≤ 8 * 1 := sE_le (fun k _ => by split <;> omega)
  have h2 : hlv pk (b + 1) < 31 := by unfold hlv; split <;> omega
  refine B_Layout_roomOf hE (by omega) Y.1 ?_
  have h1 := ly_halvedOf hE (L := L - 1) (by omega) Y (c := b + 1) (by omega)
  rw [bx_S] at h1
  exact h1.use ((store_roomOf hE (by omega) S hb h2).use ⟨rfl, rfl⟩)
theorem ly_isWithin (hE : EOk E) (hL : 1 ≤ L) (Y : LyV h r pk lv) {c d : Nat} (hc : c ≤ 24) (hd : d ≤ 24) (hd0 : d ≠ 0) : RdI E L m_Layout_isWithin r [.int (bx c), .int (bx d)] h (if wi pk d 8 c = true then 1 else 0) := by
  obtain ⟨s1, s2, s3, s4, -⟩ := sh_layout Y.1
  refine B_Layout_isWithin hE hL Y.1 ?_
  have main : ∀ n k c, n + k = 8 → c ≤ 24 → at_Layout_isWithin_5 E L r h (fun y h' => y = (if wi pk d n c = true then 1 else 0) ∧ h' = h) (bx d) (bx c) (nI k) := by
    intro n
    induction n with
    | zero =>
      intro k c hk hc
      rw [show k = 8 by omega]
      exact B_Layout_isWithin_5 (brT (nEnd 8) ⟨rfl, rfl⟩)
    | succ n ih =>
      intro k c hk hc
      refine B_Layout_isWithin_5 (brF (nG 8 (by omega)) ?_)
      cases c with
      | zero => exact brT (by decide) ⟨rfl, rfl⟩
      | succ i =>
        have hp := Y.2.1 i (by omega)
        rw [bx_S, s1, nIc (by omega), hp.1, nI_1, bx_inj (by omega) (by omega)]
        refine brF (nIneg (by omega)) (brF (nG 24 (by omega)) ⟨inI_of s3 (by omega) (by omega), fun q => ?_, fun q => ?_⟩)
        · have e : wi pk d (n + 1) (i + 1) = wi pk d n (pk i) := by
            simp only [wi, nx, Nat.add_sub_cancel, if_neg (Nat.succ_ne_zero i), if_neg q]
          rw [e]
          exact ih (k + 1) (pk i) (by omega) (by omega)
        · have e : wi pk d (n + 1) (i + 1) = true := by
            simp only [wi, nx, Nat.add_sub_cancel, if_neg (Nat.succ_ne_zero i), if_pos q]
          rw [e]
          exact ⟨rfl, rfl⟩
  exact main 8 0 c (by omega) hc
theorem ly_loadOf (hE : EOk E) (hL : 2 ≤ L) (Y : LyV h r pk lv) {nB nT : Nat} {tv : Nat → Nat → Nat} (S : StV h (rf r 0) nB nT tv) {c : Nat} (hc : c ≤ 24) (h0 : c ≠ 0) : RdI E L m_Layout_loadOf r [.int (bx c)] h (nI (lod pk tv c)) := by
  refine B_Layout_loadOf hE (by omega) Y.1 ?_
  refine upto (P := fun k => at_Layout_loadOf_4 E L r h _ (bx c) (nI (sE (fun i => if wi pk c 8 (i + 1) = true then tv i 2 else 0) k)) (nI k)) (n := 24) ?_ ?_ 0 (by omega)
  · exact B_Layout_loadOf_4 (brT (nEnd 24) ⟨rfl, rfl⟩)
  · intro k hk ih
    refine B_Layout_loadOf_4 (brF (nG 24 hk) ?_)
    have h1 := ly_isWithin hE (L := L - 1) (by omega) Y (c := k + 1) (d := c) (by omega) hc h0
    rw [bx_S] at h1
    refine h1.use ?_
    rw [nI_1]
    by_cases q : wi pk c 8 (k + 1) = true
    · rw [if_pos q]
      refine brF (by decide) ((store_told hE (by omega) S (i := k) (k := 2) hk (by omega)).use ?_)
      simp only [sE, if_pos q] at ih; rw [nI_add]; exact ih
    · rw [if_neg q]
      refine brT rfl ?_
      simp only [sE, if_neg q] at ih; exact ih
theorem ly_around (hE : EOk E) (hL : 2 ≤ L) (Y : LyV h r pk lv) {c : Nat} (hc : c ≤ 24) : RdI E L m_Layout_around r [.int (bx c)] h (nI (dpt pk 9 c)) := by
  refine B_Layout_around hE (by omega) Y.1 ((ly_boxOf hE (by omega) Y hc).use ?_)
  have main : ∀ n k c, n + k = 9 → c ≤ 24 → at_Layout_around_8 E L r h (fun y h' => y = nI (k + dpt pk n c) ∧ h' = h) (nI k) (bx (nx pk c)) := by
    intro n
    induction n with
    | zero =>
      intro k c hk hc
      have hn := nx_le Y hc
      rw [show k = 9 by omega]
      refine B_Layout_around_8 ?_
      rw [bx_m1 (by omega)]
      exact ⟨fun _ => ⟨rfl, rfl⟩, fun _ => brT (show nI 8 < nI 9 from nI_lt (by omega) (by omega)) ⟨rfl, rfl⟩⟩
    | succ n ih =>
      intro k c hk hc
      have hn := nx_le Y hc
      refine B_Layout_around_8 ?_
      rw [bx_m1 (by omega)]
      refine ⟨fun q => ?_, fun q => brF (show ¬ nI 8 < nI k from nI_nlt (by omega) (by omega)) ?_⟩
      · refine ⟨?_, rfl⟩; simp only [dpt, if_pos q, Nat.add_zero]
      · refine (ly_boxOf hE (by omega) Y (c := nx pk c) (by omega)).use ?_
        have e : k + dpt pk (n + 1) c = (k + 1) + dpt pk n (nx pk c) := by simp only [dpt, if_neg q]; omega
        rw [e, nI_1]
        exact ih (k + 1) (nx pk c) (by omega) (by omega)
  have h9 := main 9 0 c (by omega) hc
  rw [Nat.zero_add] at h9
  exact h9
end LayoutA
