section Seek2
variable {E : EnvX} {L : Nat} {h : Hp} {K : Nat} {nB nT : Nat} {tv : Nat → Nat → Nat} {pk lv : Nat → Nat}
theorem pth_0 {W : Nat → Bool} {m : Nat} {g : Nat → Bool} : pth pk lv W (m + 1) g 0 = (amO pk lv W m g 24).1 - 1 := rfl
theorem pth_s {W : Nat → Bool} {m t : Nat} {g : Nat → Bool} : pth pk lv W (m + 1) g (t + 1) = pth pk lv W m (adG g ((amO pk lv W m g 24).1 - 1)) t := rfl
def skPost (pk lv : Nat → Nat) (W : Nat → Bool) (n : Nat) (h h' : Hp) : Prop := EqO (fun q => 69 ≤ q ∧ q ≤ 73) h h' ∧ h'.1 69 6 = nI n ∧ h'.2.1 72 0 = nI (opt pk lv W n (fun _ => false)) ∧ ∀ t, t < n → h'.2.1 71 t = nI (pth pk lv W n (fun _ => false) t)
theorem vo_seek (hE : EOk E) (hL : 7 ≤ L) (Y : LyV h 3 pk lv) {row n : Nat} (hr : cls row = 7) (hrow : row < 60) (hm : h.1 row 2 = nI n) (hn : n ≤ 5) (h8 : nB ≤ 8) (h16 : nT ≤ 16) (hb : ∀ j, j < n → badV nB nT (h.2.2 (row + 1)) j = false) : ConV E L m_Voyage_seek 69 [.ref row] h (skPost pk lv (snK (h.2.2 (row + 1)) n) n h) := by
  have hp : ∀ i, i < 24 → pk i ≤ 8 := fun i hi => (Y.2.1 i hi).2
  have hc := sn_cnt (ws := h.2.2 (row + 1)) h8 h16 n hb
  have n6 : n < 6 := by omega
  have p32 := pow32 n6
  refine B_Voyage_seek hE (by omega) ((vo_sortIn hE (by omega) hr hrow hm hn h8 h16 hb).mono (fun h1 z => ?_))
  generalize snK (h.2.2 (row + 1)) n = W at *
  obtain ⟨e1, c1, t1⟩ := z
  rw [c1, (allI n6).1, (allI n6).2, nIc (by omega)]
  refine ⟨in72 (by omega), ?_⟩
  -- the row of what to lift
  have l45 : ∀ h2, EqO (fun q => 69 ≤ q ∧ q ≤ 73) h h2 → h2.1 69 6 = nI n → (∀ j, j < 24 → W j = true → h2.2.1 70 (cB W j) = nI j) → (∀ o, o < 2 ^ n → h2.2.1 72 o = nI (opt pk lv W (lf W (gO W o)) (gO W o))) → (∀ o, o + 1 < 2 ^ n → h2.2.1 73 o = nI (cB W ((amO pk lv W (lf W (gO W o) - 1) (gO W o) 24).1 - 1))) → ∀ f t, f + t = n → ∀ o, o < 2 ^ n → lf W (gO W o) = f → (∀ t', t' < f → pth pk lv W n (fun _ => false) (t + t') = pth pk lv W f (gO W o) t') → ∀ h3, EqO (fun q => q = 71) h2 h3 → (∀ t', t' < t → h3.2.1 71 t' = nI (pth pk lv W n (fun _ => false) t')) → at_Voyage_seek_45 E L h3 (skPost pk lv W n h) (nI o) (nI t) := by
    intro h2 e c2 t2 a72 a73 f
    induction f with
    | zero =>
      intro t ht o ho hl _ h3 e3 a
      refine B_Voyage_seek_45 ?_
      rw [(e3 69 (by omega)).1, c2]
      rw [show t = n by omega] at a ⊢
      refine brT (nI_le (Nat.le_refl _) (by omega)) ⟨e.trans (e3.wk (fun q z => by omega)), ?_, ?_, a⟩
      · rw [(e3 69 (by omega)).1, c2]
      · rw [(e3 72 (by omega)).2.1, a72 0 (by omega), lf_0, hc]
        congr 1
        exact opt_cong hp n (fun j hj => by show (W j && Nat.testBit 0 _) = false; rw [Nat.zero_testBit, Bool.and_false])
    | succ f ih =>
      intro t ht o ho hl hpt h3 e3 a
      have nz := lf_am (pk := pk) (lv := lv) hl
      obtain ⟨y1, y2, y3⟩ := am_yes nz
      have yr : rmB W (gO W o) ((amO pk lv W f (gO W o) 24).1 - 1) = true := y2
      rw [gO_rm, Bool.and_eq_true] at yr
      have y1' : (amO pk lv W f (gO W o) 24).1 ≤ 24 := y1
      have i24 : (amO pk lv W f (gO W o) 24).1 - 1 < 24 := by omega
      have ho1 : o + 1 < 2 ^ n := by
        by_cases q : o + 1 < 2 ^ n
        · exact q
        · have := lf_all n6 hc
          rw [show o = 2 ^ n - 1 by omega] at hl
          omega
      have k5 := cB_lt yr.1 i24
      have tf : o.testBit (cB W ((amO pk lv W f (gO W o) 24).1 - 1)) = false := by simpa using yr.2
      have up := upO n6 ho (k := cB W ((amO pk lv W f (gO W o) 24).1 - 1)) (by omega) tf
      have lo := lf_or (W := W) (by omega) tf
      have p0 := hpt 0 (by omega)
      rw [pth_0, Nat.add_zero] at p0
      refine B_Voyage_seek_45 ?_
      rw [(e3 69 (by omega)).1, c2, nIc (show o < 2147483648 by omega), (e3 73 (by omega)).2.1, a73 o ho1, hl, Nat.add_sub_cancel, nIc (show cB W ((amO pk lv W f (gO W o) 24).1 - 1) < 2147483648 by omega), (e3 70 (by omega)).2.1, t2 _ i24 yr.1, orO (by omega) (by omega), nIc (show t < 2147483648 by omega), nI_1]
      refine brF (nI_ge (by omega) (by omega)) ⟨in73 (by omega), in70 (by omega), in71 (by omega), ih (t + 1) (by omega) _ up.2 (by omega) (fun t' ht' => ?_) _ (e3.trans (EqO.sA (F := fun q => q = 71) rfl)) (fun t' ht' => ?_)⟩
      · have p1 := hpt (t' + 1) (by omega)
        rw [pth_s] at p1
        rw [show t + 1 + t' = t + (t' + 1) by omega, p1]
        refine pth_cong hp f (fun j hj => ?_) t'
        rw [gO_or (by omega) j hj, itK_at i24 yr.1]
      · rw [sA_A, if_pos rfl]
        by_cases d : t' = t
        · rw [if_pos d, d, p0]
        · rw [if_neg d]; exact a t' (by omega)
  have l25 : ∀ c, c + 1 ≤ 2 ^ n → ∀ h2, EqO (fun q => 69 ≤ q ∧ q ≤ 73) h h2 → h2.1 69 6 = nI n → (∀ j, j < 24 → W j = true → h2.2.1 70 (cB W j) = nI j) → (∀ o, c ≤ o → o < 2 ^ n → h2.2.1 72 o = nI (opt pk lv W (lf W (gO W o)) (gO W o))) → (∀ o, c ≤ o → o + 1 < 2 ^ n → h2.2.1 73 o = nI (cB W ((amO pk lv W (lf W (gO W o) - 1) (gO W o) 24).1 - 1))) → at_Voyage_seek_25 E L h2 (skPost pk lv W n h) (bx c) := by
    intro c
    induction c with
    | zero =>
      intro _ h2 e c2 t2 a72 a73
      refine B_Voyage_seek_25 (brT bxneg0 (l45 h2 e c2 t2 (fun o ho => a72 o (Nat.zero_le _) ho) (fun o ho => a73 o (Nat.zero_le _) ho) n 0 (by omega) 0 (by omega) (by rw [lf_0, hc]) (fun t' ht' => ?_) h2 EqO.rfl' (fun t' ht' => absurd ht' (Nat.not_lt_zero t'))))
      rw [Nat.zero_add]
      exact pth_cong hp n (fun j hj => by show false = (W j && Nat.testBit 0 _); rw [Nat.zero_testBit, Bool.and_false]) t'
    | succ o ih =>
      intro ho h2 e c2 t2 a72 a73
      obtain ⟨k, hk, tf⟩ := someO n6 (o := o) (by omega)
      have lo := lf_or (W := W) (o := o) (k := k) (by omega) tf
      have Y2 : LyV h2 3 pk lv := LyV_eq Y (e 4 (by omega)).2.1 (e 5 (by omega)).2.1
      have hm1 : lf W (gO W o) = lf W (gO W o) - 1 + 1 := by omega
      have ch := vo_choose hE (L := L - 1) (by omega) Y2 (W := W) (n := n) (o := o) (m := lf W (gO W o) - 1) n6 (by omega) hc c2 t2 hm1 (fun k hk tb => by
        have up := upO n6 (by omega) hk tb
        exact a72 _ (by omega) up.2)
      rw [bx_S]
      refine B_Voyage_seek_25 (brF (nIneg (by omega)) (ch.mono (fun h3 z3 => ?_)))
      obtain ⟨e3, s3, v72, v73⟩ := z3
      rw [bx_p]
      refine ih (by omega) h3 (e.trans (e3.wk (fun q z => by omega))) (by rw [(e3 69 (by omega)).1]; exact c2) (fun j hj w => by rw [(e3 70 (by omega)).2.1]; exact t2 j hj w) (fun o' h1' h2' => ?_) (fun o' h1' h2' => ?_)
      · by_cases d : o' = o
        · rw [d, v72, ← hm1]
        · rw [(s3 o' d).1]; exact a72 o' (by omega) h2'
      · by_cases d : o' = o
        · rw [d, v73]
        · rw [(s3 o' d).2]; exact a73 o' (by omega) h2'
  refine l25 (2 ^ n - 1) (by omega) _ ((e1.wk (fun q z => by omega)).trans (EqO.sA (F := fun q => 69 ≤ q ∧ q ≤ 73) (by omega))) c1 (fun j hj w => ?_) (fun o h1' h2' => ?_) (fun o h1' h2' => by omega)
  · rw [sA_A, if_neg (by omega)]; exact t1 j hj w
  · have eo : o = 2 ^ n - 1 := by omega
    rw [sA_A, if_pos rfl, if_pos eo, eo, lf_all n6 hc]; rfl
end Seek2
