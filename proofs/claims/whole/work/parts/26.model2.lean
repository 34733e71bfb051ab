/-! ===== the reference, on: sums, room, refusals ===== -/
theorem addz (x : Int32) : x + 0 = x := Int32.add_zero x
def ovM (pk sn : Nat → Nat) (i : Nat) : Nat := sE (fun k => if ow pk sn k 9 (i + 1) = true then 1 else 0) 24
theorem ow_0 {pk sn : Nat → Nat} {one : Nat} (h : pk one = 0) : ∀ n c, ow pk sn one n c = false
  | 0, _ => rfl
  | n + 1, c => by
    simp only [ow]
    split
    · rfl
    · rw [if_neg (fun z => z.1 (by rw [← z.2.1]; exact h))]; exact ow_0 h n (nx pk c)
theorem wi_0 {pk : Nat → Nat} {d : Nat} (hd : d ≠ 0) : ∀ n, wi pk d n 0 = false
  | 0 => rfl
  | n + 1 => by simp [wi]
theorem wi_fl {pk : Nat → Nat} {d i : Nat} (hd : d ≠ 0) (h : pk i = 0) (n : Nat) : wi pk d n (i + 1) = false := by
  cases n with
  | zero => rfl
  | succ n => simp only [wi, nx_S, if_neg (Nat.succ_ne_zero i), h, if_neg (fun z : 0 = d => hd z.symm), wi_0 hd]
section ModelB
variable {E : EnvX} {L : Nat} {h : Hp} {nB nT : Nat} {tv : Nat → Nat → Nat} {pk sn : Nat → Nat} {ck : Nat}
theorem m_overMany (hE : EOk E) (hL : 4 ≤ L) (M : MdV h nB nT tv pk sn ck) (hA : acy pk) {i : Nat} (hi : i < 24) : RdI E L m_M_overMany 74 [.int (nI i)] h (nI (ovM pk sn i)) := by
  refine B_M_overMany hE (by omega) ?_
  refine upto (P := fun k => at_M_overMany_4 E L h _ (nI i) (nI (sE (fun k => if ow pk sn k 9 (i + 1) = true then 1 else 0) k)) (nI k)) (n := 24) ?_ ?_ 0 (by omega)
  · exact B_M_overMany_4 (brT (nEnd 24) ⟨rfl, rfl⟩)
  · intro k hk ih
    obtain ⟨x, hx, hxx⟩ := m_isItem hE (L := L - 1) (by omega) M hk
    refine B_M_overMany_4 (brF (nG 24 hk) (hx.use ?_))
    rw [nI_1]
    rw [sE_s _ k] at ih
    rcases hxx with ⟨rfl, q⟩ | ⟨rfl, q⟩
    · refine brF (by decide) ((m_isOver hE (by omega) M hA hk hi).use ?_)
      by_cases c : ow pk sn k 9 (i + 1) = true
      · rw [if_pos c] at ih
        rw [if_pos c, nI_1]
        exact brF (by decide) ih
      · rw [if_neg c] at ih
        rw [if_neg c, addz]
        exact brT rfl ih
    · have c : ow pk sn k 9 (i + 1) = false := ow_0 (M.2.2.2.2.2 k hk q) 9 _
      rw [if_neg (by rw [c]; decide)] at ih
      rw [addz]
      exact brT rfl ih
theorem m_loadOf (hE : EOk E) (hL : 4 ≤ L) (M : MdV h nB nT tv pk sn ck) (hA : acy pk) {c : Nat} (hc : c ≤ 24) (h0 : c ≠ 0) : RdI E L m_M_loadOf 74 [.int (bx c)] h (nI (lod pk tv c)) := by
  refine B_M_loadOf hE (by omega) ?_
  refine upto (P := fun k => at_M_loadOf_4 E L h _ (bx c) (nI (sE (fun i => if wi pk c 8 (i + 1) = true then tv i 2 else 0) k)) (nI k)) (n := 24) ?_ ?_ 0 (by omega)
  · exact B_M_loadOf_4 (brT (nEnd 24) ⟨rfl, rfl⟩)
  · intro k hk ih
    obtain ⟨x, hx, hxx⟩ := m_isItem hE (L := L - 1) (by omega) M hk
    refine B_M_loadOf_4 (brF (nG 24 hk) (hx.use ?_))
    rw [nI_1]
    rw [sE_s _ k] at ih
    rcases hxx with ⟨rfl, q⟩ | ⟨rfl, q⟩
    · refine brF (by decide) ((m_isDeepIn hE (by omega) M hA hk hc h0).use ?_)
      by_cases c1 : wi pk c 8 (k + 1) = true
      · rw [if_pos c1] at ih
        rw [if_pos c1]
        refine brF (by decide) ((m_of hE (by omega) M hk (k := 2) (by omega)).use ?_)
        rw [nI_add]; exact ih
      · rw [if_neg c1] at ih
        rw [if_neg c1, addz]
        exact brT rfl ih
    · rw [if_neg (by rw [wi_fl h0 (M.2.2.2.2.2 k hk q)]; decide)] at ih
      rw [addz]
      exact brT rfl ih
theorem m_fillOf (hE : EOk E) (hL : 4 ≤ L) (M : MdV h nB nT tv pk sn ck) {c : Nat} (hc : c ≤ 24) (h0 : c ≠ 0) : RdI E L m_M_fillOf 74 [.int (bx c)] h (nI (fil pk tv c)) := by
  refine B_M_fillOf hE (by omega) ?_
  refine upto (P := fun k => at_M_fillOf_4 E L h _ (bx c) (nI (sE (fun i => if pk i = c then tv i 0 else 0) k)) (nI k)) (n := 24) ?_ ?_ 0 (by omega)
  · exact B_M_fillOf_4 (brT (nEnd 24) ⟨rfl, rfl⟩)
  · intro k hk ih
    obtain ⟨x, hx, hxx⟩ := m_isItem hE (L := L - 1) (by omega) M hk
    refine B_M_fillOf_4 (brF (nG 24 hk) (hx.use ?_))
    rw [nI_1]
    rw [sE_s _ k] at ih
    have hp := M.pk8 hk
    rcases hxx with ⟨rfl, q⟩ | ⟨rfl, q⟩
    · refine brF (by decide) ((m_around hE (by omega) M hk).use ?_)
      rw [bx_inj (by omega) (by omega)]
      refine ⟨fun c1 => ?_, fun c1 => (m_of hE (by omega) M hk (k := 0) (by omega)).use ?_⟩
      · rw [if_neg c1] at ih
        rw [addz]; exact ih
      · rw [if_pos c1] at ih
        rw [nI_add]; exact ih
    · rw [if_neg (by rw [M.2.2.2.2.2 k hk q]; exact fun z => h0 z.symm)] at ih
      rw [addz]
      exact brT rfl ih
theorem m_manyIn (hE : EOk E) (hL : 4 ≤ L) (M : MdV h nB nT tv pk sn ck) {c : Nat} (hc : c ≤ 24) (h0 : c ≠ 0) : RdI E L m_M_manyIn 74 [.int (bx c)] h (nI (cnt pk c)) := by
  refine B_M_manyIn hE (by omega) ?_
  refine upto (P := fun k => at_M_manyIn_4 E L h _ (bx c) (nI (sE (fun i => if pk i = c then 1 else 0) k)) (nI k)) (n := 24) ?_ ?_ 0 (by omega)
  · exact B_M_manyIn_4 (brT (nEnd 24) ⟨rfl, rfl⟩)
  · intro k hk ih
    obtain ⟨x, hx, hxx⟩ := m_isItem hE (L := L - 1) (by omega) M hk
    refine B_M_manyIn_4 (brF (nG 24 hk) (hx.use ?_))
    rw [nI_1]
    rw [sE_s _ k] at ih
    have hp := M.pk8 hk
    rcases hxx with ⟨rfl, q⟩ | ⟨rfl, q⟩
    · refine brF (by decide) ((m_around hE (by omega) M hk).use ?_)
      rw [bx_inj (by omega) (by omega)]
      refine ⟨fun c1 => ?_, fun c1 => ?_⟩
      · rw [if_neg c1] at ih
        rw [addz]; exact ih
      · rw [if_pos c1] at ih
        rw [nI_1]; exact ih
    · rw [if_neg (by rw [M.2.2.2.2.2 k hk q]; exact fun z => h0 z.symm)] at ih
      rw [addz]
      exact brT rfl ih
theorem m_itemsIn (hE : EOk E) (hL : 4 ≤ L) (M : MdV h nB nT tv pk sn ck) : RdI E L m_M_itemsIn 74 [] h (nI (sE (fun i => if pk i = 0 then 0 else 1) 24)) := by
  refine B_M_itemsIn hE (by omega) ?_
  refine upto (P := fun k => at_M_itemsIn_4 E L h _ (nI (sE (fun i => if pk i = 0 then 0 else 1) k)) (nI k)) (n := 24) ?_ ?_ 0 (by omega)
  · exact B_M_itemsIn_4 (brT (nEnd 24) ⟨rfl, rfl⟩)
  · intro k hk ih
    obtain ⟨x, hx, hxx⟩ := m_isItem hE (L := L - 1) (by omega) M hk
    refine B_M_itemsIn_4 (brF (nG 24 hk) (hx.use ?_))
    rw [nI_1]
    rw [sE_s _ k] at ih
    have hp := M.pk8 hk
    rcases hxx with ⟨rfl, q⟩ | ⟨rfl, q⟩
    · refine brF (by decide) ((m_around hE (by omega) M hk).use ?_)
      rw [bx_m1 (by omega)]
      refine ⟨fun c1 => ?_, fun c1 => ?_⟩
      · rw [if_pos c1] at ih
        rw [addz]; exact ih
      · rw [if_neg c1] at ih
        rw [nI_1]; exact ih
    · rw [if_pos (M.2.2.2.2.2 k hk q)] at ih
      rw [addz]
      exact brT rfl ih
theorem m_halvedOf (hE : EOk E) (hL : 2 ≤ L) (M : MdV h nB nT tv pk sn ck) {b : Nat} (hb : b < 24) : RdI E L m_M_halvedOf 74 [.int (nI b)] h (nI (hlv pk (b + 1))) := by
  obtain ⟨⟨h8, h16, -⟩, ⟨e0, -⟩, -⟩ := id M
  have hz : sE (fun i => if pk i = b + 1 then 1 else 0) 8 = sE (fun i => if pk i = b + 1 then 1 else 0) nB := by
    have : ∀ n, nB ≤ n → n ≤ 8 → sE (fun i => if pk i = b + 1 then 1 else 0) n = sE (fun i => if pk i = b + 1 then 1 else 0) nB := by
      intro n
      induction n with
      | zero => intro h1 _; rw [show nB = 0 by omega]
      | succ n ih =>
        intro h1 h2
        rcases Nat.eq_or_lt_of_le h1 with q | q
        · rw [q]
        · rw [sE_s, ih (by omega) (by omega), if_neg, Nat.add_zero]
          rw [M.2.2.2.2.2 n (by omega) (fun z => by rcases z with z | z <;> omega)]
          omega
    exact this 8 h8 (Nat.le_refl _)
  have main : ∀ z : Nat, at_M_halvedOf_17 E L h (fun y h' => y = nI (z + sE (fun i => if pk i = b + 1 then 1 else 0) nB) ∧ h' = h) (nI b) (nI z) 0 := by
    intro z
    refine upto (P := fun k => at_M_halvedOf_17 E L h _ (nI b) (nI (z + sE (fun i => if pk i = b + 1 then 1 else 0) k)) (nI k)) (n := nB) ?_ ?_ 0 (Nat.zero_le _)
    · refine B_M_halvedOf_17 ⟨in75 (k := 0) (by omega), ?_⟩
      rw [show (0 : Int32).toNatClampNeg = 0 from rfl, e0]
      exact brT (nI_le (Nat.le_refl _) (by omega)) ⟨rfl, rfl⟩
    · intro k hk ih
      have hp := M.pk8 (i := k) (by omega)
      refine B_M_halvedOf_17 ⟨in75 (k := 0) (by omega), ?_⟩
      rw [show (0 : Int32).toNatClampNeg = 0 from rfl, e0]
      refine brF (nI_ge hk (by omega)) ((m_around hE (by omega) M (i := k) (by omega)).use ?_)
      rw [sE_s _ k] at ih
      rw [nI_1, ← bx_S b, bx_inj (by omega) (by omega)]
      refine ⟨fun c1 => ?_, fun c1 => ?_⟩
      · rw [if_neg c1] at ih
        rw [addz, bx_S]; exact ih
      · rw [if_pos c1] at ih
        rw [nI_1, bx_S]; exact ih
  refine B_M_halvedOf hE (by omega) ((m_around hE (by omega) M hb).use ?_)
  have hp := M.pk8 hb
  rw [bx_m1 (by omega)]
  unfold hlv
  rw [nx_S, hz]
  refine ⟨fun q => ?_, fun q => ?_⟩
  · rw [if_neg q]; exact main 1
  · rw [if_pos q]; exact main 0
theorem m_roomBy (hE : EOk E) (hL : 1 ≤ L) {a f n : Nat} (ha : a * f < 2147483648) (hn : n < 100) : RdI E L m_M_roomBy 0 [.int (nI a), .int (nI f), .int (nI n)] h (nI (a * f / 2 ^ n)) := by
  refine B_M_roomBy hE hL ?_
  rw [nI_mul]
  have hd : ∀ k, a * f / 2 ^ k < 2147483648 := fun k => Nat.lt_of_le_of_lt (Nat.div_le_self _ _) ha
  have h0 : nI (a * f) = nI (a * f / 2 ^ 0) := by rw [Nat.pow_zero, Nat.div_one]
  rw [h0]
  refine upto (P := fun k => at_M_roomBy_7 E L h _ (nI n) (nI (a * f / 2 ^ k)) (nI k)) (n := n) ?_ ?_ 0 (Nat.zero_le _)
  · exact B_M_roomBy_7 (brT (nI_le (Nat.le_refl _) (by omega)) ⟨rfl, rfl⟩)
  · intro k hk ih
    refine B_M_roomBy_7 (brF (nI_ge hk (by omega)) ⟨by decide, ?_⟩)
    rw [show (2 : Int32) = nI 2 from rfl, pk_div (hd k) (by omega) (by omega), nI_1, Nat.div_div_eq_div_mul, ← Nat.pow_succ]
    exact ih
theorem m_roomOf (hE : EOk E) (hL : 3 ≤ L) (M : MdV h nB nT tv pk sn ck) {b m : Nat} (hb : b < 24) (hm : m ≤ 1) : RdI E L m_M_roomOf 74 [.int (nI b), .int (nI m)] h (nI (rom pk tv b (hlv pk (b + 1) + m))) := by
  have h1 := (M.2.2.1 b 0 hb (by omega)).2
  have h2 := (M.2.2.1 b 5 hb (by omega)).2
  have h3 : tv b 0 * tv b 5 < 2147483648 := Nat.lt_of_le_of_lt (Nat.mul_le_mul h1 h2) (by decide)
  have hl := hlv_lt pk (b + 1)
  refine B_M_roomOf hE (by omega) ((m_of hE (by omega) M hb (k := 0) (by omega)).use ((m_of hE (by omega) M hb (k := 5) (by omega)).use ((m_halvedOf hE (by omega) M hb).use ?_)))
  rw [nI_add]
  exact (m_roomBy hE (by omega) h3 (by omega)).use ⟨rfl, rfl⟩
theorem m_heftOf (hE : EOk E) (hL : 5 ≤ L) (M : MdV h nB nT tv pk sn ck) (hA : acy pk) {i : Nat} (hi : isIt nB nT i) : RdI E L m_M_heftOf 74 [.int (nI i)] h (nI (hft pk tv nB i)) := by
  obtain ⟨⟨h8, h16, -⟩, -⟩ := id M
  have hi24 : i < 24 := by rcases hi with q | q <;> omega
  have h1 := m_loadOf hE (L := L - 1) (by omega) M hA (c := i + 1) (by omega) (by omega)
  rw [bx_S] at h1
  refine B_M_heftOf hE (by omega) ((m_of hE (by omega) M hi24 (k := 2) (by omega)).use ?_)
  unfold hft
  by_cases c : i < nB
  · rw [if_pos c]
    refine brF (nG 8 (by omega)) (h1.use ⟨?_, rfl⟩)
    rw [nI_add]
  · rw [if_neg c, addz]
    exact brT (nLe 8 (by rcases hi with q | q <;> omega) (by omega)) ⟨rfl, rfl⟩
theorem m_depthOf (hE : EOk E) (hL : 2 ≤ L) (M : MdV h nB nT tv pk sn ck) (hA : acy pk) {i : Nat} (hi : i < 24) : RdI E L m_M_depthOf 74 [.int (nI i)] h (nI (dpt pk 9 (i + 1))) := by
  refine B_M_depthOf hE (by omega) ((m_around hE (by omega) M hi).use ?_)
  have main : ∀ n z j, j < 24 → itn pk n (j + 1) = 0 → at_M_depthOf_8 E L h (fun y h' => y = nI (z + dpt pk n (j + 1)) ∧ h' = h) (nI z) (bx (pk j)) := by
    intro n
    induction n with
    | zero => intro z j hj hz; exact absurd hz (Nat.succ_ne_zero j)
    | succ n ih =>
      intro z j hj hz
      have hp := M.pk8 hj
      rw [itn_s, nx_S] at hz
      refine B_M_depthOf_8 ?_
      rw [bx_m1 (by omega)]
      refine ⟨fun q => ?_, fun q => ?_⟩
      · refine ⟨?_, rfl⟩
        simp only [dpt, nx_S, if_pos q, Nat.add_zero]
      · obtain ⟨k, hk⟩ : ∃ k, pk j = k + 1 := ⟨pk j - 1, by omega⟩
        have e : z + dpt pk (n + 1) (j + 1) = (z + 1) + dpt pk n (k + 1) := by
          simp only [dpt, nx_S, if_neg q]; rw [hk]; omega
        rw [e, hk, bx_S, nI_1]
        exact (m_around hE (by omega) M (i := k) (by omega)).use (ih (z + 1) k (by omega) (by rw [hk] at hz; exact hz))
  have h9 := main 9 0 i hi (hA (i + 1) (by omega))
  rw [Nat.zero_add] at h9
  exact h9
theorem m_bears (hE : EOk E) (hL : 5 ≤ L) (M : MdV h nB nT tv pk sn ck) (hA : acy pk) {b w : Nat} (hb : b < 24) (hw : w < 1000000) : RdI E L m_M_bears 74 [.int (nI b), .int (nI w)] h (if brs pk tv w 9 (b + 1) = true then 1 else 0) := by
  refine B_M_bears hE (by omega) ?_
  have ht : ∀ i k, i < 24 → k < 7 → tv i k ≤ 9999 := fun i k hi hk => (M.2.2.1 i k hi hk).2
  have main : ∀ n c, c ≤ 24 → itn pk n c = 0 → at_M_bears_2 E L h (fun y h' => y = (if brs pk tv w n c = true then 1 else 0) ∧ h' = h) (nI w) (bx c) := by
    intro n
    induction n with
    | zero =>
      intro c hc hz
      rw [show c = 0 from hz]
      exact B_M_bears_2 (brT (by decide) ⟨rfl, rfl⟩)
    | succ n ih =>
      intro c hc hz
      cases c with
      | zero => exact B_M_bears_2 (brT (by decide) ⟨by simp [brs], rfl⟩)
      | succ j =>
        rw [itn_s, nx_S] at hz
        have hp := M.pk8 (i := j) (by omega)
        have h1 := m_loadOf hE (L := L - 1) (by omega) M hA (c := j + 1) (by omega) (by omega)
        rw [bx_S] at h1
        rw [bx_S]
        have q1 := ht j 6 (by omega) (by omega)
        have q2 := lod_le (pk := pk) (tv := tv) (fun i hi => ht i 2 hi (by omega)) (j + 1)
        refine B_M_bears_2 (brF (nIm1 (by omega)) (h1.use ((m_of hE (by omega) M (i := j) (k := 6) (by omega) (by omega)).use ?_)))
        rw [nI_add, nIl (by omega) (by omega)]
        refine ⟨fun c1 => (m_around hE (by omega) M (i := j) (by omega)).use ?_, fun c1 => ?_⟩
        · have e : brs pk tv w (n + 1) (j + 1) = brs pk tv w n (pk j) := by
            simp only [brs, if_neg (Nat.succ_ne_zero j), Nat.add_sub_cancel, nx_S, decide_eq_true c1, Bool.true_and]
          rw [e]
          exact ih (pk j) (by omega) hz
        · have e : brs pk tv w (n + 1) (j + 1) = false := by
            simp only [brs, if_neg (Nat.succ_ne_zero j), Nat.add_sub_cancel, decide_eq_false c1, Bool.false_and]
          rw [e]
          exact ⟨rfl, rfl⟩
  have h9 := main 9 (b + 1) (by omega) (hA (b + 1) (by omega))
  rw [bx_S] at h9
  exact h9
end ModelB
