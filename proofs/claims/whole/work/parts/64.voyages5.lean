section Voyages
variable {E : EnvX} {L : Nat} {h : Hp} {K : Nat}
def vgX (E : EnvX) (L : Nat) (h : Hp) (r : Nat) (v2 : Int32) (post : Int32 → Hp → Prop) : Prop := inR 13 (nI r) ∧ ConI E (L - 1) m_Row_isMissing (rfa 13 (nI r).toNatClampNeg) [] h (fun y4 h3 => ((y4 = 0 → (inR 13 (nI r) ∧ ConI E (L - 1) m_Voyage_areItems 69 [.ref (rfa 13 (nI r).toNatClampNeg), .int 5] h3 (fun y6 h5 => ((¬ y6 = 0 → (inR 13 (nI r) ∧ ConV E (L - 1) m_Voyage_seek 69 [.ref (rfa 13 (nI r).toNatClampNeg)] h5 (fun h7 => ((¬ v2 = 0 → ConI E (L - 1) m_Voyage_itemAt 69 [.int (v2 - 10)] h7 (fun y9 h8 => post y9 h8)) ∧ (v2 = 0 → ConI E (L - 1) m_Voyage_fewest 69 [] h7 (fun y11 h10 => post y11 h10)))))) ∧ (y6 = 0 → post (-3) h5))))) ∧ (¬ y4 = 0 → post (-6) h3)))
def vgM (E : EnvX) (L : Nat) (h1 : Hp) (r : Nat) (v2 : Int32) (post : Int32 → Hp → Prop) : Prop := inI 93 (nI r) ∧ ((¬ (h1.2.1 93 (nI r).toNatClampNeg) = (-1) → ConI E (L - 1) m_M_areItems 74 [.int (nI r)] h1 (fun y4 h3 => ((y4 = 0 → post (-3) h3) ∧ (¬ y4 = 0 → (inI 94 (nI r) ∧ (((h3.2.1 94 (nI r).toNatClampNeg) ≤ 5 → at_M_voyages_77 E L h3 post (nI r) v2 0 0) ∧ (¬ (h3.2.1 94 (nI r).toNatClampNeg) ≤ 5 → post (-3) h3))))))) ∧ ((h1.2.1 93 (nI r).toNatClampNeg) = (-1) → post (-6) h1))
theorem ten {t : Nat} (ht : t < 5) : nI (10 + t) - 10 = nI t ∧ ¬ nI (10 + t) = 0 ∧ ¬ nI (10 + t) < 10 ∧ ¬ 15 ≤ nI (10 + t) := (show ∀ t, t < 5 → nI (10 + t) - 10 = nI t ∧ ¬ nI (10 + t) = 0 ∧ ¬ nI (10 + t) < 10 ∧ ¬ 15 ≤ nI (10 + t) by decide) t ht
theorem vgX_top (hE : EOk E) (hL : 20 ≤ L) {r : Nat} (hr : r < 4) {v : Int32} (hv : v = 0 ∨ ∃ t, t < 5 ∧ v = nI (10 + t)) {post : Int32 → Hp → Prop} (H : vgX E L h r v post) : ConI E L m_X_voyages 0 [.int (nI r), .int v] h post := by
  refine B_X_voyages hE (by omega) ?_
  rcases hv with rfl | ⟨t, ht, rfl⟩
  · exact brT (by decide) (B_X_voyages_16 ((x_isRow hE (by omega) hr).use (brF (by decide) (brT rfl H))))
  · obtain ⟨-, a, b, c⟩ := ten ht
    exact brF b (brF c ((x_isRow hE (by omega) hr).use (brF (by decide) (brF a (brF' (by decide) H)))))
theorem vgM_top (hE : EOk E) (hL : 20 ≤ L) {r : Nat} (hr : r < 4) {v : Int32} (hv : v = 0 ∨ ∃ t, t < 5 ∧ v = nI (10 + t)) {post : Int32 → Hp → Prop} (H : vgM E L (sI h 74 0 0) r v post) : ConI E L m_M_voyages 74 [.int (nI r), .int v] h post := by
  have w1 : RdI E (L - 1) m_M_within 0 [.long (nI r).toInt64, .long 0, .long 3] (sI h 74 0 0) 1 := m_w_yes (a := 0) (b := 3) hE (by omega) (by omega) (by omega) (by omega)
  refine B_M_voyages hE (by omega) (w1.use (brF (by decide) ?_))
  rcases hv with rfl | ⟨t, ht, rfl⟩
  · exact brT rfl H
  · exact brF (ten ht).2.1 ((m_w_yes (a := 10) (b := 14) hE (by omega) (by omega) (by omega) (by omega)).use (brF' (by decide) H))
theorem eq_voyages (hE : EOk E) (hL : 20 ≤ L) (I : Inv h K) (hK : K + 60 ≤ 100000) (u v : Int32) : Same E L m_X_voyages m_M_voyages [.int u, .int v] h K := by
  obtain ⟨nB, nT, tv, pk, lv, sn, ck, hck, C⟩ := I.2.1
  have h8 := C.1.2.2.2.1
  have h16 := C.1.2.2.2.2.1
  have hp : ∀ i, i < 24 → pk i ≤ 8 := fun i hi => C.2.2.1.pk8 hi
  by_cases hu : ∃ r, r < 4 ∧ u = nI r
  · obtain ⟨r, hr, rfl⟩ := hu
    obtain ⟨s13, c13⟩ := sh13 hr
    by_cases hv : v = 0 ∨ ∃ t, t < 5 ∧ v = nI (10 + t)
    · have i1 := row_isMissing (h := h) hE (L := L - 1) (by omega) c13
      rcases I.2.2.1 r hr with ⟨q1, q2⟩ | ⟨n, s, q1, q2, q3, q4, q5, q6, q7⟩
      · rw [if_pos q1] at i1
        refine same_rd (x := -6) I hK (RdX.of I.2.2.2.2.2.2 (vgX_top hE (by omega) hr hv ⟨in13 hr, ?_⟩)) (fun h1 e I1 => vgM_top hE (by omega) hr hv ⟨in93 hr, ?_⟩)
        · rw [nIc (by omega), s13]
          exact i1.use (brF (by decide) ⟨rfl, rfl⟩)
        · rw [nIc (by omega), show (sI h1 74 0 0).2.1 93 r = h.2.1 93 r by rw [sI_A, e.a 93]]
          exact brT' q2 ⟨rfl, thr_eq _, I1.2.2.2.2.2.2⟩
      · rw [if_neg (by rw [q3]; exact nIm1 (by omega))] at i1
        have ps : ¬ (h.2.1 93 r) = -1 := by rw [q5]; exact nIm1 (by omega)
        have ar := vo_areItems (h := h) hE (L := L - 1) (by omega) C.1 (mx := 5) c13 q3 q1 (by omega)
        have sk := fun n5 hb => vo_seek (h := h) hE (L := L - 1) (by omega) C.2.1 c13 (by omega) q3 n5 h8 h16 hb
        have w7 : ∀ j, j < n → h.2.2 95 (40 * r + j) = h.2.2 (14 + 2 * r + 1) j := fun j hj => by rw [← q7 j hj, show 15 + 2 * r = 14 + 2 * r + 1 by omega]
        generalize hws : h.2.2 (14 + 2 * r + 1) = ws at ar sk w7
        have mm : ∀ (h2 : Hp) (ans : Int32), EqO (fun q => 69 ≤ q ∧ q ≤ 73) h h2 → (¬ (findF (badV nB nT ws) n 0 = 0 ∧ n ≤ 5) → ans = -3) → (findF (badV nB nT ws) n 0 = 0 ∧ n ≤ 5 → v = 0 → ans = nI (opt pk lv (snK ws n) n (fun _ => false))) → (findF (badV nB nT ws) n 0 = 0 ∧ n ≤ 5 → ∀ t, t < 5 → v = nI (10 + t) → ans = if t < n then nI (pth pk lv (snK ws n) n (fun _ => false) t) else -1) → ConI E L m_M_voyages 74 [.int (nI r), .int v] h2 (fun y2 h3 => ans = y2 ∧ Inv h3 (K + 60)) := by
          intro h2 ans eX a0 a1 a2
          have sX : EqS h h2 := EqS.of eX (fun p hp => (show ∀ p ∈ persF, ¬ (69 ≤ p.1 ∧ p.1 ≤ 73) by decide) p hp) (fun p hp => (show ∀ p ∈ persA, ¬ (69 ≤ p ∧ p ≤ 73) by decide) p hp)
          have zX : PickZ h2 := PickZ_eq I.2.2.2.2.2.2 (fun a h1 h2 => (eX a (by omega)).2.1)
          have M1 : MdV h2 nB nT tv pk sn ck := MsV_eq C.2.2.1 (eX 75 (by omega)).2.1
          have w95 : ∀ j, j < n → (sI h2 74 0 0).2.2 95 (40 * r + j) = ws j := fun j hj => by rw [sI_A, (eX 95 (by omega)).2.2]; exact w7 j hj
          have w94 : (sI h2 74 0 0).2.1 94 r = nI n := by rw [sI_A, (eX 94 (by omega)).2.1]; exact q6
          have am := m_areItems (h := sI h2 74 0 0) hE (L := L - 1) (by omega) M1 hr q1 w94 w95
          have I3 : Inv (sI h2 74 0 0) (K + 60) := I.keep (sX.trans (thr_eq h2)) zX (by omega) hK
          refine vgM_top hE (by omega) hr hv ⟨in93 hr, ?_⟩
          rw [nIc (by omega), show (sI h2 74 0 0).2.1 93 r = h.2.1 93 r by rw [sI_A, (eX 93 (by omega)).2.1]]
          refine brF' ps (am.use ?_)
          by_cases c : findF (badV nB nT ws) n 0 = 0
          · rw [if_pos c]
            refine brF (by decide) ⟨in94 hr, ?_⟩
            rw [w94, show (5 : Int32) = nI 5 from rfl, nIl (by omega) (by omega)]
            refine ⟨fun n5 => ?_, fun n5 => ⟨a0 (fun z => n5 z.2), I3⟩⟩
            have bn : ∀ k, k < n → badV nB nT ws k = false := by
              rcases findF_min (badV nB nT ws) n 0 with ⟨-, a⟩ | ⟨j, -, -, -, a, -⟩
              · exact fun k hk => a k (Nat.zero_le _) (by omega)
              · omega
            have hc := sn_cnt (ws := ws) h8 h16 n bn
            have main : ∀ m k, m + k = n → ∀ v3, Mk v3 (snK ws k) → at_M_voyages_77 E L (sI h2 74 0 0) (fun y2 h3 => ans = y2 ∧ Inv h3 (K + 60)) (nI r) v v3 (nI k) := by
              intro m
              induction m with
              | zero =>
                intro k hk v3 mv
                rw [show k = n by omega] at mv ⊢
                refine B_M_voyages_77 ⟨in94 hr, ?_⟩
                rw [nIc (by omega), w94]
                have M2 : MdV (sI (sI (sI h2 74 0 0) 74 31 (nI n)) 74 32 (-1)) nB nT tv (pkG pk (fun _ => false)) sn ck := M1
                have lf0 : lf (snK ws n) (fun _ => false) = n := by
                  refine Eq.trans (sE_cong (n := 24) (fun j hj => ?_)) hc
                  show (if (snK ws n j && !false) = true then 1 else 0) = _
                  rw [Bool.not_false, Bool.and_true]
                have tr := m_trips hE (W := snK ws n) C.2.2.2.1 C.2.2.2.2.1 hp n5 n 0 (by omega) (L - 1) (by omega) (fun _ => false) 0 0 (sI (sI (sI h2 74 0 0) 74 31 (nI n)) 74 32 (-1)) v3 M2 (mk_cong mv (fun j _ => by show _ = (snK ws n j && !false); rw [Bool.not_false, Bool.and_true])) lf0 (by rw [sI_1, if_pos rfl, if_neg (by omega), sI_1, if_pos rfl, if_pos rfl]) (by rw [sI_1, if_pos rfl, if_pos rfl]; rfl) (by omega) (by omega)
                refine brT (nI_le (Nat.le_refl _) (by omega)) ⟨in94 hr, tr.mono (fun h9 z9 => ?_)⟩
                obtain ⟨o1, o2, o3, -, o5, -⟩ := z9
                obtain ⟨x1, -, x3⟩ := o5 (Or.inl rfl)
                rw [Nat.zero_add, bx_S] at x1
                have I9 : Inv h9 (K + 60) := by
                  have gg : ∀ q, (q < 6 ∨ (41 ≤ q ∧ q ≤ 44)) → h9.1 q = h.1 q ∧ h9.2.1 q = h.2.1 q := fun q hq => by
                    have s1 := eX q (by omega)
                    have s2 := o1 q (by omega)
                    refine ⟨s2.1.trans (Eq.trans ?_ s1.1), s2.2.1.trans s1.2.1⟩
                    refine funext (fun k => ?_)
                    rw [sI_1, if_neg (by omega), sI_1, if_neg (by omega), sI_1, if_neg (by omega)]
                  have t9 : EqT (sI h2 74 0 0) h9 := by
                    refine ⟨fun p hp => ?_, fun q hq => ?_, fun k _ => by rw [o2]; rfl⟩
                    · by_cases d : p.1 = 74
                      · have : p.2 ≠ 32 ∧ p.2 ≠ 31 := (show ∀ p ∈ perF2, p.1 = 74 → p.2 ≠ 32 ∧ p.2 ≠ 31 by decide) p hp d
                        rw [d, o3 p.2 this.1, sI_1, if_pos rfl, if_neg this.1, sI_1, if_pos rfl, if_neg this.2]
                      · have : p.1 ≠ 75 ∧ p.1 ≠ 87 ∧ p.1 ≠ 88 := (show ∀ p ∈ perF2, p.1 ≠ 75 ∧ p.1 ≠ 87 ∧ p.1 ≠ 88 by decide) p hp
                        rw [(o1 p.1 (by omega)).1, sI_1, if_neg d, sI_1, if_neg d]
                    · have : q ≠ 74 ∧ q ≠ 75 ∧ q ≠ 87 ∧ q ≠ 88 := (show ∀ p ∈ perA2, p ≠ 74 ∧ p ≠ 75 ∧ p ≠ 87 ∧ p ≠ 88 by decide) q hq
                      exact (o1 q (by omega)).2
                  exact I.move ((sX.t.trans (thr_eq h2).t).trans t9) ⟨nB, nT, tv, pk, lv, sn, ck, by omega, StV_eq C.1 (by rw [(gg 1 (by omega)).1]) (by rw [(gg 1 (by omega)).1]) (gg 2 (by omega)).2, LyV_eq C.2.1 (gg 4 (by omega)).2 (gg 5 (by omega)).2, MsV_eq M1 o2, C.2.2.2⟩ (PickZ_eq I.2.2.2.2.2.2 (fun a h1 h2 => (gg a (by omega)).2)) (by omega) hK
                rcases hv with e0 | ⟨t, ht, et⟩
                · rw [e0]
                  exact brT' rfl ⟨by rw [a1 ⟨c, n5⟩ e0, x1], I9⟩
                · obtain ⟨t1, t2, -, -⟩ := ten ht
                  rw [et, t1, show h9.1 74 31 = nI n by rw [o3 31 (by omega), sI_1, if_pos rfl, if_neg (by omega), sI_1, if_pos rfl, if_pos rfl], nIl (by omega) (by omega), nIc (show t < 2147483648 by omega)]
                  have aa := a2 ⟨c, n5⟩ t ht et
                  refine brF' t2 ⟨fun d => ?_, fun d => ⟨in88 ht, ?_⟩⟩
                  · rw [if_neg (by omega)] at aa
                    exact ⟨aa, I9⟩
                  · rw [if_pos (by omega)] at aa
                    have x4 := x3 t (by omega)
                    rw [Nat.zero_add] at x4
                    exact ⟨by rw [aa, x4], I9⟩
              | succ m ih =>
                intro k hk v3 mv
                obtain ⟨i, hi, i24, e, ea, es⟩ := badV_no h8 h16 (bn k (by omega))
                have nm := snK_mk mv i24 e
                refine B_M_voyages_77 ⟨in94 hr, ?_⟩
                rw [show (40 : Int32) = nI 40 from rfl, nI_mul, nI_add, nIc (show r < 2147483648 by omega), nIc (by omega), w94, w95 k (by omega), nI_1]
                exact brF (nI_ge (by omega) (by omega)) ⟨in95 (by omega), ih (k + 1) (by omega) _ nm⟩
            exact main n 0 (by omega) 0 (mk_cong mk_0 (fun i _ => rfl))
          · rw [if_neg c]
            exact brT rfl ⟨a0 (fun z => c z.1), I3⟩
        refine vgX_top hE (by omega) hr hv ⟨in13 hr, ?_⟩
        rw [nIc (by omega), s13]
        refine i1.use (brT rfl ⟨in13 hr, ar.use ?_⟩)
        by_cases c : findF (badV nB nT ws) n 0 = 0 ∧ n ≤ 5
        · rw [if_pos c]
          have bn : ∀ k, k < n → badV nB nT ws k = false := by
            rcases findF_min (badV nB nT ws) n 0 with ⟨-, a⟩ | ⟨j, -, -, -, a, -⟩
            · exact fun k hk => a k (Nat.zero_le _) (by omega)
            · omega
          refine brF' (by decide) ⟨in13 hr, (sk c.2 bn).mono (fun h7 z7 => ?_)⟩
          obtain ⟨e7, c7, f7, r7⟩ := z7
          rcases hv with e0 | ⟨t, ht, et⟩
          · refine brT' e0 ((show RdI E (L - 1) m_Voyage_fewest 69 [] h7 (nI (opt pk lv (snK ws n) n (fun _ => false))) from B_Voyage_fewest hE (by omega) ⟨in72 (k := 0) (by omega), f7, rfl⟩).use (mm _ _ e7 (fun z => absurd c z) (fun _ _ => rfl) (fun _ t ht et => ?_)))
            exact absurd e0 (by rw [et]; exact (ten ht).2.1)
          · obtain ⟨t1, t2, -, -⟩ := ten ht
            have it : RdI E (L - 1) m_Voyage_itemAt 69 [.int (nI t)] h7 (if t < n then nI (pth pk lv (snK ws n) n (fun _ => false) t) else -1) := by
              refine B_Voyage_itemAt hE (by omega) (brF (nIneg (by omega)) ?_)
              rw [c7, nIl (by omega) (by omega), show (5 : Int32) = nI 5 from rfl, nIl (by omega) (by omega), nIc (by omega)]
              refine ⟨fun d => ?_, fun d => brF (by omega) ⟨in71 ht, ?_⟩⟩
              · rw [if_neg (by omega)]; exact ⟨rfl, rfl⟩
              · rw [if_pos (by omega)]; exact ⟨r7 t (by omega), rfl⟩
            have mm7 := fun ans a3 => mm h7 ans e7 (fun z => absurd c z) (fun _ e0 => absurd e0 (by rw [et]; exact t2)) a3
            rw [et] at mm7 ⊢
            rw [t1]
            refine brF' t2 (it.use (mm7 _ (fun _ t' ht' et' => ?_)))
            have : t' = t := by have := (nIe (by omega) (by omega)).mp et'; omega
            rw [this]
        · rw [if_neg c]
          exact brT' rfl (mm h _ EqO.rfl' (fun _ => rfl) (fun z => absurd z c) (fun z => absurd z c))
    · have v0 : ¬ v = 0 := fun z => hv (Or.inl z)
      refine same_rd (x := -2) I hK (RdX.of I.2.2.2.2.2.2 (B_X_voyages hE (by omega) ?_)) (fun h1 e I1 => ?_)
      · have sx : at_X_voyages_16 E L h (fun y h' => y = -2 ∧ h' = h) (nI r) v := B_X_voyages_16 ((x_isRow hE (by omega) hr).use (brF (by decide) (brF v0 (brT' rfl ⟨rfl, rfl⟩))))
        refine ⟨fun _ => sx, fun c => ⟨fun _ => sx, fun d => ?_⟩⟩
        exfalso
        apply hv
        refine Or.inr ⟨v.toInt.toNat - 10, ?_, ?_⟩
        · rw [i32_lt] at c; rw [i32_le] at d
          have e1 : (10 : Int32).toInt = 10 := rfl
          have e2 : (15 : Int32).toInt = 15 := rfl
          omega
        · rw [i32_lt] at c; rw [i32_le] at d
          have e1 : (10 : Int32).toInt = 10 := rfl
          have e2 : (15 : Int32).toInt = 15 := rfl
          rw [i32_eq, nI_int (by omega)]
          omega
      · have w1 : RdI E (L - 1) m_M_within 0 [.long (nI r).toInt64, .long 0, .long 3] (sI h1 74 0 0) 1 := m_w_yes (a := 0) (b := 3) hE (by omega) (by omega) (by omega) (by omega)
        exact B_M_voyages hE (by omega) (w1.use (brF (by decide) (brF v0 ((m_w_no (a := 10) (b := 14) hE (by omega) (by omega) (by omega) (fun ⟨k, k1, k2, k3⟩ => hv (Or.inr ⟨k - 10, by omega, by rw [k3]; congr 1; omega⟩))).use (brT' rfl ⟨rfl, thr_eq _, I1.2.2.2.2.2.2⟩)))))
  · refine same_rd (x := -2) I hK (RdX.of I.2.2.2.2.2.2 (B_X_voyages hE (by omega) ?_)) (fun h1 e I1 => ?_)
    · have sx : at_X_voyages_16 E L h (fun y h' => y = -2 ∧ h' = h) u v := B_X_voyages_16 ((x_isRow_no hE (by omega) hu).use (brT rfl ⟨rfl, rfl⟩))
      exact ⟨fun _ => sx, fun c => ⟨fun _ => sx, fun d => (x_isRow_no hE (by omega) hu).use (brT rfl ⟨rfl, rfl⟩)⟩⟩
    · exact B_M_voyages hE (by omega) ((m_w_no (a := 0) (b := 3) hE (by omega) (by omega) (by omega) (w3 hu)).use (brT rfl ⟨rfl, thr_eq _, I1.2.2.2.2.2.2⟩))
end Voyages
