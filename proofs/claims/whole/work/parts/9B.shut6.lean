section Shut8
variable {E : EnvX} {L : Nat} {h : Hp} {nB nT : Nat} {tv : Nat → Nat → Nat} {it : Nat → Nat} {Hs : Nat → Bool} {m : Nat}
theorem wy_le (h8 : nB ≤ 8) : ∀ f pk, wy tv nB it Hs m f pk ≤ 8 ^ f
  | 0, pk => by
    show (if (wrg pk tv nB 0).1 = 0 then 1 else 0) ≤ 1
    split <;> omega
  | f + 1, pk => by
    have h1 : wy tv nB it Hs m (f + 1) pk ≤ nB * 8 ^ f := sE_le (fun b _ => by
      by_cases c : Hs b = true ∧ b ≠ it (m - (f + 1))
      · rw [if_pos c]; exact wy_le h8 f _
      · rw [if_neg c]; exact Nat.zero_le _)
    have h2 : nB * 8 ^ f ≤ 8 * 8 ^ f := Nat.mul_le_mul_right _ h8
    rw [Nat.pow_succ]; omega
theorem p8 : ∀ f, f ≤ 6 → 8 ^ f ≤ 262144 := by decide
theorem z_wi (d : Nat) (hd : d ≠ 0) : ∀ n c, wi (fun _ => 0) d n c = false
  | 0, _ => rfl
  | n + 1, c => by
    by_cases q : wi (fun _ => 0) d (n + 1) c = true
    · exfalso
      simp only [wi, nx] at q
      split at q
      · simp_all
      · simp at q
        rcases q with q | q
        · exact hd q.symm
        · rw [z_wi d hd n 0] at q; cases q
    · simpa using q
theorem z_acy : acy (fun _ => 0) := fun c _ => by
  rw [show (9 : Nat) = 8 + 1 from rfl, itn_s, show nx (fun _ => 0) c = 0 by unfold nx; split <;> rfl, itn_0]
theorem z_lod (c : Nat) : lod (fun _ => 0) tv (c + 1) = 0 := sE_zero (fun i _ => if_neg (by rw [z_wi _ (by omega)]; decide))
theorem z_fil (c : Nat) : fil (fun _ => 0) tv (c + 1) = 0 := sE_zero (fun i _ => if_neg (show ¬ 0 = c + 1 by omega))
theorem z_hlv (c : Nat) : hlv (fun _ => 0) (c + 1) = 0 := by
  unfold hlv
  rw [nx_S, if_pos rfl, sE_zero (fun i _ => if_neg (show ¬ 0 = c + 1 by omega))]
theorem z_snd : Snd (fun _ => 0) tv nB := ⟨z_acy, fun _ _ z => absurd rfl z, fun b _ => by rw [z_lod]; omega, fun b _ => by rw [z_fil]; omega⟩
theorem itK_inj {W : Nat → Bool} {i j : Nat} (hi : i < cB W 24) (hj : j < cB W 24) (e : itK W i = itK W j) : i = j := by
  have a := (itK_yes hi).2.2
  rw [e, (itK_yes hj).2.2] at a
  exact a.symm
/-- the hosts: the boxes of the set, and b itself -/
def hoS (nB x b : Nat) (c : Nat) : Bool := decide (c < nB) && (x.testBit c || decide (c = b))
theorem sh_seek (hE : EOk E) (hL : 14 ≤ L) (S : StV h 1 nB nT tv) {b x : Nat} (hb : b < nB) (hx : x < 16777216) (m6 : cB (fun i => x.testBit i) 24 ≤ 6) (hxi : ∀ i, i < 24 → x.testBit i = true → isIt nB nT i) (v3 : Int32) : ConV E L m_Shutting_seek 53 [.int (nI b), .int (nI x), .int v3] h (fun h' => EqO (fun q => 53 ≤ q ∧ q ≤ 58) h h' ∧ ((v3 = 0 ∨ wy tv nB (itK (fun i => x.testBit i)) (hoS nB x b) (cB (fun i => x.testBit i) 24) (cB (fun i => x.testBit i) 24) (fun _ => 0) = 0) → h'.1 53 8 = nI (wy tv nB (itK (fun i => x.testBit i)) (hoS nB x b) (cB (fun i => x.testBit i) 24) (cB (fun i => x.testBit i) 24) (fun _ => 0))) ∧ (¬ v3 = 0 → wy tv nB (itK (fun i => x.testBit i)) (hoS nB x b) (cB (fun i => x.testBit i) 24) (cB (fun i => x.testBit i) 24) (fun _ => 0) ≠ 0 → ShV h' (fw tv nB (itK (fun i => x.testBit i)) (hoS nB x b) (cB (fun i => x.testBit i) 24) (cB (fun i => x.testBit i) 24) (fun _ => 0)) tv ∧ h'.1 53 8 = nI 1)) := by
  have h8 := S.2.2.2.1
  generalize hR : (fun h' : Hp => EqO (fun q => 53 ≤ q ∧ q ≤ 58) h h' ∧ ((v3 = 0 ∨ wy tv nB (itK (fun i => x.testBit i)) (hoS nB x b) (cB (fun i => x.testBit i) 24) (cB (fun i => x.testBit i) 24) (fun _ => 0) = 0) → h'.1 53 8 = nI (wy tv nB (itK (fun i => x.testBit i)) (hoS nB x b) (cB (fun i => x.testBit i) 24) (cB (fun i => x.testBit i) 24) (fun _ => 0))) ∧ (¬ v3 = 0 → wy tv nB (itK (fun i => x.testBit i)) (hoS nB x b) (cB (fun i => x.testBit i) 24) (cB (fun i => x.testBit i) 24) (fun _ => 0) ≠ 0 → ShV h' (fw tv nB (itK (fun i => x.testBit i)) (hoS nB x b) (cB (fun i => x.testBit i) 24) (cB (fun i => x.testBit i) 24) (fun _ => 0)) tv ∧ h'.1 53 8 = nI 1)) = R
  refine B_Shutting_seek hE (by omega) ?_
  refine (fillI_ok hE (by omega) (a := 55) (v := -1) k55.1.2.1 (by rw [k55.1.2.2]; decide)).mono (fun h1 z1 => ?_)
  refine (fillI_ok hE (by omega) (a := 56) (v := 0) k55.2.1.1 (by rw [k55.2.1.2]; decide)).mono (fun h2 z2 => ?_)
  refine (fillI_ok hE (by omega) (a := 57) (v := 0) k55.2.2.1.1 (by rw [k55.2.2.1.2]; decide)).mono (fun h3 z3 => ?_)
  refine (fillI_ok hE (by omega) (a := 58) (v := 0) k55.2.2.2.1 (by rw [k55.2.2.2.2]; decide)).mono (fun h4 z4 => ?_)
  obtain ⟨e1, f1⟩ := z1
  obtain ⟨e2, f2⟩ := z2
  obtain ⟨e3, f3⟩ := z3
  obtain ⟨e4, f4⟩ := z4
  rw [k55.1.2.2] at f1
  rw [k55.2.1.2] at f2
  rw [k55.2.2.1.2] at f3
  rw [k55.2.2.2.2] at f4
  have e14 : EqO (fun q => 53 ≤ q ∧ q ≤ 58) h h4 := (((e1.wk (fun q z => by omega)).trans (e2.wk (fun q z => by omega))).trans (e3.wk (fun q z => by omega))).trans (e4.wk (fun q z => by omega))
  have S4 : StV h4 1 nB nT tv := S.keep e14 (by omega) (by omega)
  have V4 : ShV h4 (fun _ => 0) tv := by
    refine ⟨fun k hk => ⟨?_, Nat.zero_le _⟩, fun c hc => ⟨?_, ?_, ?_⟩⟩
    · rw [(e4 55 (by omega)).2.1, (e3 55 (by omega)).2.1, (e2 55 (by omega)).2.1, f1 k hk, bx_0]
    · rw [(e4 56 (by omega)).2.1, (e3 56 (by omega)).2.1, f2 c hc, z_fil]; rfl
    · rw [(e4 57 (by omega)).2.1, f3 c hc, z_lod]; rfl
    · rw [f4 c hc, z_hlv]; rfl
  have b1 : RdI E (L - 1) m_Store_boxBits 1 [] h4 (nI (2 ^ nB - 1)) := B_Store_boxBits hE (by omega) S4.1 ⟨by rw [S4.2.1, shlN (by omega), pred1 (Nat.two_pow_pos nB)], rfl⟩
  refine b1.use ?_
  have pl : 2 ^ nB ≤ 2 ^ 8 := Nat.pow_le_pow_right (by decide) h8
  have mh : Mk ((nI x &&& nI (2 ^ nB - 1)) ||| ((1 : Int32) <<< (nI b &&& 31))) (hoS nB x b) := by
    refine mk_cong (mk_or (mk_and (mk_nat hx) (mk_nat (show 2 ^ nB - 1 < 2 ^ 24 by omega))) (show b < 24 by omega)) (fun i hi => ?_)
    rw [Nat.testBit_two_pow_sub_one]
    unfold hoS
    by_cases c : i < nB
    · rw [decide_eq_true c, Bool.and_true, Bool.true_and]
    · rw [decide_eq_false c, Bool.and_false, Bool.false_and, Bool.false_or, decide_eq_false (by omega)]
  have mh' := fun c (hc : c < 8) => mk_test mh (show c < 24 by omega)
  have mx := fun i hi => mk_test (mk_nat hx) (i := i) hi
  generalize (nI x &&& nI (2 ^ nB - 1)) ||| ((1 : Int32) <<< (nI b &&& 31)) = hs at mh mh'
  have lp : ∀ g i, g + i = 24 → ∀ h5, EqO (fun q => 53 ≤ q ∧ q ≤ 58) h h5 → ShV h5 (fun _ => 0) tv → h5.1 53 7 = hs → h5.1 53 8 = nI 0 → h5.1 53 6 = nI (cB (fun i => x.testBit i) i) → (∀ j, j < cB (fun i => x.testBit i) i → h5.2.1 54 j = nI (itK (fun i => x.testBit i) j)) → at_Shutting_seek_62 E L h5 R (nI x) v3 (nI i) := by
    intro g
    induction g with
    | zero =>
      intro i hi h5 e5 V5 a7 a8 a6 a4
      rw [show i = 24 by omega] at a6 a4 ⊢
      have S5 : StV h5 1 nB nT tv := S.keep e5 (by omega) (by omega)
      have wl := wy_le (tv := tv) (it := itK (fun i => x.testBit i)) (Hs := hoS nB x b) (m := cB (fun i => x.testBit i) 24) h8 (cB (fun i => x.testBit i) 24) (fun _ => 0)
      have pp := p8 _ m6
      refine B_Shutting_seek_62 (brT (nEnd 24) ?_)
      refine (sh_place hE (L := L - 1) h8 m6 (fun i j hi hj e => itK_inj hi hj e) (fun j hj => ⟨(itK_yes hj).1, fun z => by
        rcases hxi _ (itK_yes hj).1 (itK_yes hj).2.1 with q | q
        · exact q
        · omega⟩) (Hs := hoS nB x b) (fun c hc => by unfold hoS at hc; rw [Bool.and_eq_true] at hc; exact of_decide_eq_true hc.1) v3 (cB (fun i => x.testBit i) 24) 0 (by omega) (by omega) h5 (fun _ => 0) 0 S5 V5 z_snd (fun _ _ => by omega) (fun _ _ _ => rfl) a6 (fun c hc => by rw [a7]; exact mh' c hc) a4 a8 (by omega) (fun _ => rfl)).mono (fun h6 z6 => ?_)
      obtain ⟨e6, k6, p6, q6⟩ := z6
      rw [← hR]
      refine ⟨e5.trans (e6.wk (fun q z => by omega)), fun c => ?_, fun c d => q6 c d⟩
      rw [(p6 c).2, Nat.zero_add]
    | succ g ih =>
      intro i hi h5 e5 V5 a7 a8 a6 a4
      have i24 : i < 24 := by omega
      have cs := cB_s (fun i => x.testBit i) i
      have cm := cB_mono (fun i => x.testBit i) (u := i + 1) (v := 24) (by omega)
      refine B_Shutting_seek_62 (brF (nG 24 i24) ?_)
      rw [mx i i24, nI_1]
      by_cases t : x.testBit i = true
      · rw [if_pos t]
        have cs' : cB (fun i => x.testBit i) (i + 1) = cB (fun i => x.testBit i) i + 1 := by rw [cs]; show _ + (if x.testBit i = true then 1 else 0) = _; rw [if_pos t]
        have ik : itK (fun i => x.testBit i) (cB (fun i => x.testBit i) i) = i := itK_at (W := fun i => x.testBit i) i24 t
        generalize hk : cB (fun i => x.testBit i) i = k at *
        refine brF (by decide) ?_
        rw [a6]
        refine brF (nG 6 (by omega)) ⟨in54 (by omega), ?_⟩
        rw [nIc (by omega), show (sA h5 54 k (nI i)).1 53 6 = h5.1 53 6 from rfl, a6, nI_1]
        refine ih (i + 1) (by omega) _ (e5.trans ((EqO.sA (F := fun q => 53 ≤ q ∧ q ≤ 58) (show 53 ≤ 54 ∧ 54 ≤ 58 by decide)).trans (EqO.sI (F := fun q => 53 ≤ q ∧ q ≤ 58) (show 53 ≤ 53 ∧ 53 ≤ 58 by decide)))) (ShV_eq V5 (fun q h1 h2 => sA_o (by omega))) a7 a8 (by rw [cs', sI_1, if_pos rfl, if_pos rfl]) (fun j hj => ?_)
        rw [cs'] at hj
        rw [sI_A, sA_i]
        by_cases c : j = k
        · rw [if_pos c, c, ik]
        · rw [if_neg c]; exact a4 j (by omega)
      · rw [if_neg t]
        have cs' : cB (fun i => x.testBit i) (i + 1) = cB (fun i => x.testBit i) i := by rw [cs]; show _ + (if x.testBit i = true then 1 else 0) = _; rw [if_neg t]; rfl
        exact brT rfl (ih (i + 1) (by omega) h5 e5 V5 a7 a8 (by rw [cs']; exact a6) (fun j hj => a4 j (by rw [cs'] at hj; exact hj)))
  refine lp 24 0 (by omega) _ (e14.trans (((EqO.sI (F := fun q => 53 ≤ q ∧ q ≤ 58) (show 53 ≤ 53 ∧ 53 ≤ 58 by decide)).trans (EqO.sI (F := fun q => 53 ≤ q ∧ q ≤ 58) (show 53 ≤ 53 ∧ 53 ≤ 58 by decide))).trans (EqO.sI (F := fun q => 53 ≤ q ∧ q ≤ 58) (show 53 ≤ 53 ∧ 53 ≤ 58 by decide)))) (ShV_eq V4 (fun _ _ _ => rfl)) rfl rfl rfl (fun j hj => absurd hj (Nat.not_lt_zero j))
end Shut8
