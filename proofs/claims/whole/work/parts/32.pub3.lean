section Pub3
variable {E : EnvX} {L : Nat} {h : Hp} {K : Nat} {nB nT : Nat} {tv : Nat → Nat → Nat} {pk lv sn : Nat → Nat} {ck : Nat}
theorem m_worthIn (hE : EOk E) (hL : 4 ≤ L) (M : MdV h nB nT tv pk sn ck) : RdI E L m_M_worthIn 74 [] h (nI (sE (fun i => if pk (8 + i) = 0 then 0 else tv (8 + i) 3) 16)) := by
  refine B_M_worthIn hE (by omega) ?_
  refine upto (P := fun k => at_M_worthIn_5 E L h _ (nI (sE (fun i => if pk (8 + i) = 0 then 0 else tv (8 + i) 3) k)) (nI (8 + k))) (n := 16) ?_ ?_ 0 (by omega)
  · exact B_M_worthIn_5 (brT (nEnd 24) ⟨rfl, rfl⟩)
  · intro k hk ih
    have hk24 : 8 + k < 24 := by omega
    have hp := M.pk8 hk24
    obtain ⟨x, hx, hxx⟩ := m_isItem hE (L := L - 1) (by omega) M hk24
    rw [sE_s _ k] at ih
    refine B_M_worthIn_5 (brF (nG 24 hk24) (hx.use ?_))
    rw [nI_1, addz]
    rcases hxx with ⟨rfl, q⟩ | ⟨rfl, q⟩
    · refine brF (by decide) ((m_around hE (by omega) M hk24).use ?_)
      rw [bx_m1 (by omega)]
      refine ⟨fun c => ?_, fun c => (m_of hE (by omega) M hk24 (k := 3) (by omega)).use ?_⟩
      · rw [if_pos c] at ih; exact ih
      · rw [if_neg c] at ih; rw [nI_add]; exact ih
    · rw [if_pos (M.2.2.2.2.2 _ hk24 q)] at ih
      exact brT rfl ih
/-- boxes are worth nothing -/
theorem eq_room (hE : EOk E) (hL : 20 ≤ L) (I : Inv h K) (hK : K + 60 ≤ 100000) (u v w : Int32) : Same E L m_X_room m_M_room [.int u, .int v, .int w] h K := by
  have gen : ∀ {a b : Nat} (x : Int32), a ≤ b → b < 2147483648 → (∃ k, a ≤ k ∧ k ≤ b ∧ x = nI k) ∨ ((¬ ∃ k, a ≤ k ∧ k ≤ b ∧ x = nI k) ∧ (x < nI a ∨ (¬ x < nI a ∧ nI b < x))) := by
    intro a b x hab hb
    by_cases c : ∃ k, a ≤ k ∧ k ≤ b ∧ x = nI k
    · exact Or.inl c
    · refine Or.inr ⟨c, ?_⟩
      by_cases c1 : x < nI a
      · exact Or.inl c1
      · refine Or.inr ⟨c1, Classical.byContradiction fun c2 => c ?_⟩
        rw [i32_lt, nI_int (by omega)] at c1
        rw [i32_lt, nI_int (by omega)] at c2
        refine ⟨x.toInt.toNat, by omega, by omega, ?_⟩
        rw [i32_eq, nI_int (by omega)]
        omega
  rcases gen (a := 1) (b := 99) u (by omega) (by omega) with ⟨a, a1, a2, rfl⟩ | ⟨nu, hu⟩
  · have ua : ¬ nI a < nI 1 := nI_nlt (by omega) (by omega)
    have ub : ¬ nI 99 < nI a := nI_nlt (by omega) (by omega)
    rcases gen (a := 1) (b := 64) v (by omega) (by omega) with ⟨b, b1, b2, rfl⟩ | ⟨nv, hv⟩
    · have va : ¬ nI b < nI 1 := nI_nlt (by omega) (by omega)
      have vb : ¬ nI 64 < nI b := nI_nlt (by omega) (by omega)
      rcases gen (a := 0) (b := 9) w (by omega) (by omega) with ⟨c, c1, c2, rfl⟩ | ⟨nw, hw⟩
      · have ab : a * b ≤ 99 * 64 := Nat.mul_le_mul a2 b2
        refine same_rd (x := nI (a * b / 2 ^ c)) I hK (RdX.of I.2.2.2.2.2.2 ?_) (fun h1 e I1 => ?_)
        · exact B_X_room hE (by omega) (brF ua (brF ub (brF va (brF vb (brF (by decide) (brF (nIneg (by omega)) (brT (show nI c ≤ nI 9 from nI_le c2 (by omega)) ((roomBy_ok hE (by omega) (by omega) (by omega)).use ⟨rfl, rfl⟩))))))))
        · exact B_M_room hE (by omega) ((m_w_yes (a := 1) (b := 99) hE (by omega) (by omega) (by omega) (by omega)).use (brF (by decide) ((m_w_yes (a := 1) (b := 64) hE (by omega) (by omega) (by omega) (by omega)).use (brF (by decide) ((m_w_yes (a := 0) (b := 9) hE (by omega) (by omega) (by omega) (by omega)).use (brF (by decide) ((m_roomBy hE (by omega) (by omega) (by omega)).use ⟨rfl, thr_eq _, I1.2.2.2.2.2.2⟩)))))))
      · refine same_rd (x := -3) I hK (RdX.of I.2.2.2.2.2.2 ?_) (fun h1 e I1 => ?_)
        · refine B_X_room hE (by omega) (brF ua (brF ub (brF va (brF vb (brF (by decide) ?_)))))
          rcases hw with q | ⟨q, q2⟩
          · exact brT q ⟨rfl, rfl⟩
          · exact brF q (brF (fun z => by rw [i32_le] at z; rw [i32_lt] at q2; exact absurd q2 (Int.not_lt.mpr z)) ⟨rfl, rfl⟩)
        · exact B_M_room hE (by omega) ((m_w_yes (a := 1) (b := 99) hE (by omega) (by omega) (by omega) (by omega)).use (brF (by decide) ((m_w_yes (a := 1) (b := 64) hE (by omega) (by omega) (by omega) (by omega)).use (brF (by decide) ((m_w_no (a := 0) (b := 9) hE (by omega) (by omega) (by omega) nw).use (brT rfl ⟨rfl, thr_eq _, I1.2.2.2.2.2.2⟩))))))
    · refine same_rd (x := -3) I hK (RdX.of I.2.2.2.2.2.2 ?_) (fun h1 e I1 => ?_)
      · refine B_X_room hE (by omega) (brF ua (brF ub ?_))
        rcases hv with q | ⟨q, q2⟩
        · exact brT q (brT rfl ⟨rfl, rfl⟩)
        · exact brF q (brT q2 (brT rfl ⟨rfl, rfl⟩))
      · exact B_M_room hE (by omega) ((m_w_yes (a := 1) (b := 99) hE (by omega) (by omega) (by omega) (by omega)).use (brF (by decide) ((m_w_no (a := 1) (b := 64) hE (by omega) (by omega) (by omega) nv).use (brT rfl ⟨rfl, thr_eq _, I1.2.2.2.2.2.2⟩))))
  · refine same_rd (x := -3) I hK (RdX.of I.2.2.2.2.2.2 ?_) (fun h1 e I1 => ?_)
    · refine B_X_room hE (by omega) ?_
      rcases hu with q | ⟨q, q2⟩
      · exact brT q (brT rfl ⟨rfl, rfl⟩)
      · exact brF q (brT q2 (brT rfl ⟨rfl, rfl⟩))
    · exact B_M_room hE (by omega) ((m_w_no (a := 1) (b := 99) hE (by omega) (by omega) (by omega) nu).use (brT rfl ⟨rfl, thr_eq _, I1.2.2.2.2.2.2⟩))
end Pub3
