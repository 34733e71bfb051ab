/-! ===== what wpx asks is enough (printed by wip/gen/sound.py) ===== -/
set_option maxHeartbeats 4000000 in
set_option maxRecDepth 100000 in
theorem wpx_sound {E : EnvX} {L mi t : Nat} {K : List Ent} {Q : Value → Hp → Prop} (hK : KOk mi K) : ∀ (n : Nat) (cs : List Ent) (ls : List (Option Value)) (st : List Value) (h : Hp), KOk mi cs → wpx E L mi t K Q n cs ls st h → wpR E L mi t (hdE cs) ls st h Q := by
  intro n
  induction n with
  | zero =>
    intro cs ls st h hc hw
    cases cs with
    | nil => exact (wpx_nil hw).elim
    | cons e r => exact hw
  | succ n ih =>
    intro cs ls st h hc hw
    cases cs with
    | nil => exact (wpx_nil hw).elim
    | cons en cs =>
      obtain ⟨pc, ins, nx, a, b, l, v, w⟩ := en
      have hcs := hc.tl
      obtain ⟨hB, hWd⟩ := hc.1 _ List.mem_cons_self
      have hnx : cs = [] ∨ hdE cs = nx := (contB_tl hc.2).2
      intro p e R s m args below meth c H locs cells slots A Qm lsr C hP hD hS hl hret
      show W p E.2.2.2.2.2.2.1 e R s m args below meth c H locs cells slots Qm (F0 m pc lsr (st.map (rv E t)))
      obtain ⟨hx, hb, hml, hown, hts, hKa, hSx, hE, hA1, hR, hth⟩ := id C
      have nxt : ∀ {ls' : List (Option Value)} {st' : List Value} {h' : Hp} {H' : Heap} {locs' : List Loc} {lsr' : Array Slot}, wpx E L mi t K Q n cs ls' st' h' → va_P (dX E) vwCl (worldX E h') H' → va_S A s.heap H' locs' → lv_has lsr' (md mi).2.2.1 (lsX E t 0 ls') → W p E.2.2.2.2.2.2.1 e R s m args below meth c H' locs' cells slots Qm (F0 m nx lsr' (st'.map (rv E t))) := by
        intro ls' st' h' H' locs' lsr' hw' hP' hS' hl'
        rcases hnx with q | q
        · rw [q] at hw'
          exact (wpx_nil hw').elim
        · have h9 := ih cs ls' st' h' hcs hw' p e R s m args below meth c H' locs' cells slots A Qm lsr' C hP' (vaD_of hE hA1 h') hS' hl' hret
          rwa [q] at h9
      have jmpT : ∀ (z : Nat) {ls' : List (Option Value)} {st' : List Value} {h' : Hp} {H' : Heap} {locs' : List Loc} {lsr' : Array Slot}, wpx E L mi t K Q n (jmp K z) ls' st' h' → va_P (dX E) vwCl (worldX E h') H' → va_S A s.heap H' locs' → lv_has lsr' (md mi).2.2.1 (lsX E t 0 ls') → W p E.2.2.2.2.2.2.1 e R s m args below meth c H' locs' cells slots Qm (F0 m z lsr' (st'.map (rv E t))) := by
        intro z ls' st' h' H' locs' lsr' hw' hP' hS' hl'
        rcases jmp_hd z K with q | q
        · rw [q] at hw'
          exact (wpx_nil hw').elim
        · have h9 := ih (jmp K z) ls' st' h' (KOk_jmp hK) hw' p e R s m args below meth c H' locs' cells slots A Qm lsr' C hP' (vaD_of hE hA1 h') hS' hl' hret
          rwa [q] at h9
      cases ins with
      | nop =>
        exact hw p e R s m args below meth c H locs cells slots A Qm lsr C hP hD hS (lv_wk hl (fun q hq => by
          obtain ⟨k, w⟩ := q
          obtain ⟨u, h1, h2⟩ := lsX_mem0.mp hq
          exact lsX_mem0.mpr ⟨u, mskO_nth a ls 0 k u h1, h2⟩)) hret
      | iconst i =>
        obtain ⟨hd, rfl, hx2⟩ := dc3 1 hB
        exact lv_iconst hx hb hd (of_decide_eq_true hx2) (nxt hw hP hS hl)
      | bipush i =>
        obtain ⟨hd, rfl, hx2⟩ := dc3 2 hB
        exact lv_bipush hx hb hd (of_decide_eq_true hx2) (nxt hw hP hS hl)
      | sipush i =>
        obtain ⟨hd, rfl, hx2⟩ := dc3 3 hB
        exact lv_sipush hx hb hd (of_decide_eq_true hx2) (nxt hw hP hS hl)
      | lconst i =>
        obtain ⟨hd, rfl, hx2⟩ := dc3 1 hB
        exact lv_lconst hx hb hd (of_decide_eq_true hx2) (nxt hw hP hS hl)
      | ldc i =>
        obtain ⟨hd, rfl, -⟩ := dc3 2 hB
        cases l with
        | nil => exact lv_ldc hx hb hown (hts _ hWd) hd (nxt hw hP hS hl)
        | cons q l =>
          obtain ⟨-, -, -, ⟨r0, r1, r2, r3⟩, -⟩ := hSx
          rcases hWd with ⟨ho, ⟨rfl, rfl⟩ | ⟨rfl, rfl⟩ | ⟨rfl, rfl⟩⟩ | ⟨ho, rfl, rfl⟩
          · rw [ho] at hown; exact va_ldcS hx hb hown r0 hd (nxt hw hP hS hl)
          · rw [ho] at hown; exact va_ldcS hx hb hown r1 hd (nxt hw hP hS hl)
          · rw [ho] at hown; exact va_ldcS hx hb hown r2 hd (nxt hw hP hS hl)
          · rw [ho] at hown; exact va_ldcS hx hb hown r3 hd (nxt hw hP hS hl)
      | ldc_w i =>
        obtain ⟨hd, rfl, -⟩ := dc3 3 hB
        exact lv_ldcw hx hb hown (hts _ hWd) hd (nxt hw hP hS hl)
      | ldc2_w i =>
        obtain ⟨hd, rfl, -⟩ := dc3 3 hB
        exact lv_ldc2 hx hb hown (hts _ hWd) hd (nxt hw hP hS hl)
      | iload i =>
        obtain ⟨hd, rfl, -⟩ := dc3 2 hB
        obtain ⟨x, hn, hw⟩ := lI_of hw
        exact lv_iload hx hb hd (lv_nth hl hn) (nxt hw hP hS hl)
      | iload_n i =>
        obtain ⟨hd, rfl, -⟩ := dc3 1 hB
        obtain ⟨x, hn, hw⟩ := lI_of hw
        exact lv_iload_n hx hb hd rfl (lv_nth hl hn) (nxt hw hP hS hl)
      | lload i =>
        obtain ⟨hd, rfl, -⟩ := dc3 2 hB
        obtain ⟨x, hn, hw⟩ := lJ_of hw
        exact lv_lload hx hb hd (lv_nth hl hn) (nxt hw hP hS hl)
      | lload_n i =>
        obtain ⟨hd, rfl, -⟩ := dc3 1 hB
        obtain ⟨x, hn, hw⟩ := lJ_of hw
        exact lv_lload_n hx hb hd rfl (lv_nth hl hn) (nxt hw hP hS hl)
      | aload i =>
        obtain ⟨hd, rfl, -⟩ := dc3 2 hB
        obtain ⟨u, hn, hu, hw⟩ := lA_of (k := fun x => wpx E L mi t K Q n cs ls (x :: st) h) hw
        rcases hu with ⟨x, rfl⟩ | ⟨x, rfl⟩
        · exact lv_aload hx hb hd (lv_nth hl hn) (nxt hw hP hS hl)
        · exact lv_aload hx hb hd (lv_nth hl hn) (nxt hw hP hS hl)
      | aload_n i =>
        obtain ⟨hd, rfl, -⟩ := dc3 1 hB
        obtain ⟨u, hn, hu, hw⟩ := lA_of (k := fun x => wpx E L mi t K Q n cs ls (x :: st) h) hw
        rcases hu with ⟨x, rfl⟩ | ⟨x, rfl⟩
        · exact lv_aload_n hx hb hd rfl (lv_nth hl hn) (nxt hw hP hS hl)
        · exact lv_aload_n hx hb hd rfl (lv_nth hl hn) (nxt hw hP hS hl)
      | istore i =>
        obtain ⟨hd, rfl, hx2⟩ := dc3 2 hB
        obtain ⟨x, r, rfl, hw⟩ := pI_of hw
        exact lv_istore hx hb hd hl (of_decide_eq_true hx2) rfl (fun ls2 hl2 => nxt hw hP hS (lv_wk hl2 st1_sub))
      | istore_n i =>
        obtain ⟨hd, rfl, hx2⟩ := dc3 1 hB
        obtain ⟨x, r, rfl, hw⟩ := pI_of hw
        exact lv_istore_n hx hb hd rfl hl (of_decide_eq_true hx2) rfl (fun ls2 hl2 => nxt hw hP hS (lv_wk hl2 st1_sub))
      | lstore i =>
        obtain ⟨hd, rfl, hx2⟩ := dc3 2 hB
        obtain ⟨x, r, rfl, hw⟩ := pJ_of hw
        exact lv_lstore hx hb hd hl (of_decide_eq_true hx2) rfl (fun ls2 hl2 => nxt hw hP hS (lv_wk hl2 st2_sub))
      | lstore_n i =>
        obtain ⟨hd, rfl, hx2⟩ := dc3 1 hB
        obtain ⟨x, r, rfl, hw⟩ := pJ_of hw
        exact lv_lstore_n hx hb hd rfl hl (of_decide_eq_true hx2) rfl (fun ls2 hl2 => nxt hw hP hS (lv_wk hl2 st2_sub))
      | astore i =>
        obtain ⟨hd, rfl, hx2⟩ := dc3 2 hB
        obtain ⟨x, r, rfl, hw⟩ := pR_of hw
        exact lv_astore hx hb hd hl (of_decide_eq_true hx2) rfl (fun ls2 hl2 => nxt hw hP hS (lv_wk hl2 st1_sub))
      | astore_n i =>
        obtain ⟨hd, rfl, hx2⟩ := dc3 1 hB
        obtain ⟨x, r, rfl, hw⟩ := pR_of hw
        exact lv_astore_n hx hb hd rfl hl (of_decide_eq_true hx2) rfl (fun ls2 hl2 => nxt hw hP hS (lv_wk hl2 st1_sub))
      | iinc i k =>
        obtain ⟨hd, rfl, hx2⟩ := dc3 3 hB
        have hx3 : (decide (Int32.ofInt k = v) && decide (i < (md mi).2.2.1)) = true := hx2
        simp only [Bool.and_eq_true, decide_eq_true_eq] at hx3
        obtain ⟨x, hn, hw⟩ := lI_of hw
        obtain ⟨kk, hkk⟩ := List.getElem?_of_mem (lsX_mem0 (E := E) (t := t).mpr ⟨_, hn, rfl⟩)
        exact lv_iinc hx hb hd hl hkk (by rw [hx3.1]) hx3.2 rfl (fun ls2 hl2 => nxt hw hP hS (lv_wk hl2 st1_sub))
      | iadd =>
        obtain ⟨hd, rfl, -⟩ := dc3 1 hB
        obtain ⟨x, y, r, rfl, hw⟩ := pII_of hw
        exact lv_iadd hx hb hd (nxt hw hP hS hl)
      | isub =>
        obtain ⟨hd, rfl, -⟩ := dc3 1 hB
        obtain ⟨x, y, r, rfl, hw⟩ := pII_of hw
        exact lv_isub hx hb hd (nxt hw hP hS hl)
      | imul =>
        obtain ⟨hd, rfl, -⟩ := dc3 1 hB
        obtain ⟨x, y, r, rfl, hw⟩ := pII_of hw
        exact lv_imul hx hb hd (nxt hw hP hS hl)
      | iand =>
        obtain ⟨hd, rfl, -⟩ := dc3 1 hB
        obtain ⟨x, y, r, rfl, hw⟩ := pII_of hw
        exact lv_iand hx hb hd (nxt hw hP hS hl)
      | ior =>
        obtain ⟨hd, rfl, -⟩ := dc3 1 hB
        obtain ⟨x, y, r, rfl, hw⟩ := pII_of hw
        exact lv_ior hx hb hd (nxt hw hP hS hl)
      | ixor =>
        obtain ⟨hd, rfl, -⟩ := dc3 1 hB
        obtain ⟨x, y, r, rfl, hw⟩ := pII_of hw
        exact lv_ixor hx hb hd (nxt hw hP hS hl)
      | ishl =>
        obtain ⟨hd, rfl, -⟩ := dc3 1 hB
        obtain ⟨x, y, r, rfl, hw⟩ := pII_of hw
        exact lv_ishl hx hb hd (nxt hw hP hS hl)
      | ishr =>
        obtain ⟨hd, rfl, -⟩ := dc3 1 hB
        obtain ⟨x, y, r, rfl, hw⟩ := pII_of hw
        exact lv_ishr hx hb hd (nxt hw hP hS hl)
      | iushr =>
        obtain ⟨hd, rfl, -⟩ := dc3 1 hB
        obtain ⟨x, y, r, rfl, hw⟩ := pII_of hw
        exact lv_iushr hx hb hd rfl (nxt hw hP hS hl)
      | idiv =>
        obtain ⟨hd, rfl, -⟩ := dc3 1 hB
        obtain ⟨x, y, r, rfl, hne, hw⟩ := pII_of hw
        exact lv_idiv hx hb hd hne (nxt hw hP hS hl)
      | irem =>
        obtain ⟨hd, rfl, -⟩ := dc3 1 hB
        obtain ⟨x, y, r, rfl, hne, hw⟩ := pII_of hw
        exact lv_irem hx hb hd hne (nxt hw hP hS hl)
      | ineg =>
        obtain ⟨hd, rfl, -⟩ := dc3 1 hB
        obtain ⟨x, r, rfl, hw⟩ := pI_of hw
        exact lv_ineg hx hb hd (nxt hw hP hS hl)
      | lsub =>
        obtain ⟨hd, rfl, -⟩ := dc3 1 hB
        obtain ⟨x, y, r, rfl, hw⟩ := pJJ_of hw
        exact lv_lsub hx hb hd (nxt hw hP hS hl)
      | land =>
        obtain ⟨hd, rfl, -⟩ := dc3 1 hB
        obtain ⟨x, y, r, rfl, hw⟩ := pJJ_of hw
        exact lv_land hx hb hd (nxt hw hP hS hl)
      | lor =>
        obtain ⟨hd, rfl, -⟩ := dc3 1 hB
        obtain ⟨x, y, r, rfl, hw⟩ := pJJ_of hw
        exact lv_lor hx hb hd (nxt hw hP hS hl)
      | ldiv =>
        obtain ⟨hd, rfl, -⟩ := dc3 1 hB
        obtain ⟨x, y, r, rfl, hne, hw⟩ := pJJ_of hw
        exact lv_ldiv hx hb hd hne (nxt hw hP hS hl)
      | lrem =>
        obtain ⟨hd, rfl, -⟩ := dc3 1 hB
        obtain ⟨x, y, r, rfl, hne, hw⟩ := pJJ_of hw
        exact lv_lrem hx hb hd hne (nxt hw hP hS hl)
      | lshl =>
        obtain ⟨hd, rfl, -⟩ := dc3 1 hB
        obtain ⟨x, y, r, rfl, hw⟩ := pIJ_of hw
        exact lv_lshl hx hb hd rfl (nxt hw hP hS hl)
      | lcmp =>
        obtain ⟨hd, rfl, -⟩ := dc3 1 hB
        obtain ⟨x, y, r, rfl, hw⟩ := pJJ_of hw
        exact W.lcmp hx hb hd (nxt hw hP hS hl)
      | i2l =>
        obtain ⟨hd, rfl, -⟩ := dc3 1 hB
        obtain ⟨x, r, rfl, hw⟩ := pI_of hw
        exact lv_i2l hx hb hd rfl (nxt hw hP hS hl)
      | l2i =>
        obtain ⟨hd, rfl, -⟩ := dc3 1 hB
        obtain ⟨x, r, rfl, hw⟩ := pJ_of hw
        exact lv_l2i hx hb hd rfl (nxt hw hP hS hl)
      | i2b =>
        obtain ⟨hd, rfl, -⟩ := dc3 1 hB
        obtain ⟨x, r, rfl, hw⟩ := pI_of hw
        exact lv_i2b hx hb hd rfl (nxt hw hP hS hl)
      | i2s =>
        obtain ⟨hd, rfl, -⟩ := dc3 1 hB
        obtain ⟨x, r, rfl, hw⟩ := pI_of hw
        exact lv_i2s hx hb hd rfl (nxt hw hP hS hl)
      | dup =>
        obtain ⟨hd, rfl, -⟩ := dc3 1 hB
        match st, hw with
        | .int x :: r, hw => exact lv_dup hx hb hd rfl (nxt hw hP hS hl)
        | .ref x :: r, hw => exact lv_dup hx hb hd rfl (nxt hw hP hS hl)
        | .retAddr x :: r, hw => exact lv_dup hx hb hd rfl (nxt hw hP hS hl)
        | [], hw => exact hw.elim
        | .long x :: r, hw => exact hw.elim
        | .float x :: r, hw => exact hw.elim
        | .double x :: r, hw => exact hw.elim
        | .null :: r, hw => exact hw.elim
      | dup2 =>
        obtain ⟨hd, rfl, -⟩ := dc3 1 hB
        obtain ⟨x, i, r, rfl, hw⟩ := pIR_of hw
        exact lv_dup2_11 hx hb hd rfl rfl (nxt hw hP hS hl)
      | pop =>
        obtain ⟨hd, rfl, -⟩ := dc3 1 hB
        obtain ⟨x, r, rfl, hw⟩ := pI_of hw
        exact lv_pop hx hb hd rfl (nxt hw hP hS hl)
      | goto o =>
        obtain ⟨hd, rfl, hx2⟩ := dc3 3 hB
        exact lv_goto hx hb hd (of_decide_eq_true hx2) (jmpT b hw hP hS hl)
      | ifCond cc o =>
        obtain ⟨hd, rfl, hx2⟩ := dc3 3 hB
        have hx3 := of_decide_eq_true hx2
        obtain ⟨x, r, rfl, hw⟩ := pI_of hw
        cases cc with
        | eq => exact lv_if_eq hx hb hd hx3 (fun hc => jmpT b (hw.1 hc) hP hS hl) (fun hc => nxt (hw.2 hc) hP hS hl)
        | ne => exact lv_if_ne hx hb hd hx3 (fun hc => jmpT b (hw.1 hc) hP hS hl) (fun hc => nxt (hw.2 hc) hP hS hl)
        | lt => exact lv_if_lt hx hb hd hx3 (fun hc => jmpT b (hw.1 hc) hP hS hl) (fun hc => nxt (hw.2 hc) hP hS hl)
        | ge => exact lv_if_ge hx hb hd hx3 (fun hc => jmpT b (hw.1 hc) hP hS hl) (fun hc => nxt (hw.2 hc) hP hS hl)
        | gt => exact lv_if_gt hx hb hd hx3 (fun hc => jmpT b (hw.1 hc) hP hS hl) (fun hc => nxt (hw.2 hc) hP hS hl)
        | le => exact lv_if_le hx hb hd hx3 (fun hc => jmpT b (hw.1 hc) hP hS hl) (fun hc => nxt (hw.2 hc) hP hS hl)
      | if_icmp cc o =>
        obtain ⟨hd, rfl, hx2⟩ := dc3 3 hB
        have hx3 := of_decide_eq_true hx2
        obtain ⟨x, y, r, rfl, hw⟩ := pII_of hw
        cases cc with
        | eq => exact lv_icmp_eq hx hb hd hx3 (fun hc => jmpT b (hw.1 hc) hP hS hl) (fun hc => nxt (hw.2 hc) hP hS hl)
        | ne => exact lv_icmp_ne hx hb hd hx3 (fun hc => jmpT b (hw.1 hc) hP hS hl) (fun hc => nxt (hw.2 hc) hP hS hl)
        | lt => exact lv_icmp_lt hx hb hd hx3 (fun hc => jmpT b (hw.1 hc) hP hS hl) (fun hc => nxt (hw.2 hc) hP hS hl)
        | ge => exact lv_icmp_ge hx hb hd hx3 (fun hc => jmpT b (hw.1 hc) hP hS hl) (fun hc => nxt (hw.2 hc) hP hS hl)
        | gt => exact lv_icmp_gt hx hb hd hx3 (fun hc => jmpT b (hw.1 hc) hP hS hl) (fun hc => nxt (hw.2 hc) hP hS hl)
        | le => exact lv_icmp_le hx hb hd hx3 (fun hc => jmpT b (hw.1 hc) hP hS hl) (fun hc => nxt (hw.2 hc) hP hS hl)
      | tableswitch d lo hi offs =>
        have hB2 : (dcX (md mi).2.1 pc (.tableswitch d lo hi offs) nx && exB (md mi).2.2.1 (md mi).2.2.2.1 pc (.tableswitch d lo hi offs) nx a b l v w) = true := hB
        rw [Bool.and_eq_true] at hB2
        obtain ⟨ln, hd, hn⟩ := dcX_ok hB2.1
        have hx2 : (decide (lo = 0) && decide (hi + 1 = (l.length : Int)) && decide ((pc : Int) + d = (a : Int)) && decide (offs.toList.map (fun o => (pc : Int) + o) = l.map (fun z : Nat => (z : Int))) && decide (l.length < 100)) = true := hB2.2
        simp only [Bool.and_eq_true, decide_eq_true_eq] at hx2
        obtain ⟨⟨⟨⟨rfl, e2⟩, e3⟩, e4⟩, e5⟩ := hx2
        obtain ⟨x, r, rfl, hw⟩ := pI_of hw
        by_cases ho : x.toInt < 0 ∨ hi < x.toInt
        · refine lv_tableOut hx hb hd ho e3 (jmpT a (swX_out hw ?_) hP hS hl)
          rcases ho with q | q
          · exact Or.inl (Int32.lt_iff_toInt_lt.mpr q)
          · refine Or.inr (Int32.le_iff_toInt_le.mpr ?_)
            rw [Nat.zero_add, nI_toInt (by omega)]
            omega
        · have h1 : ¬ x.toInt < 0 := fun q => ho (Or.inl q)
          have h2 : ¬ hi < x.toInt := fun q => ho (Or.inr q)
          obtain ⟨j, hj⟩ : ∃ j : Nat, x.toInt = (j : Int) := ⟨x.toInt.toNat, by omega⟩
          have hjl : j < l.length := by omega
          have hol : offs.toList.length = l.length := by have := congrArg List.length e4; simpa using this
          have hjo : j < offs.toList.length := by omega
          have hz : l[j]? = some l[j] := List.getElem?_eq_getElem hjl
          have hof : offs.toList[j]? = some offs.toList[j] := List.getElem?_eq_getElem hjo
          have e6 : (pc : Int) + offs.toList[j] = (l[j] : Int) := by
            have e7 := congrArg (fun q : List Int => q[j]?) e4
            simp only [List.getElem?_map, hof, hz, Option.map_some, Option.some.injEq] at e7
            exact e7
          refine lv_tableIn hx hb hd h1 h2 (off := offs.toList[j]) ?_ e6 (jmpT l[j] (swX_in hw hz ?_) hP hS hl)
          · rw [hj, ← Array.getElem?_toList]
            simpa using hof
          · apply Int32.toInt_inj.mp
            rw [Nat.zero_add, hj, nI_toInt (by omega)]
      | getfield i =>
        obtain ⟨hd, rfl, -⟩ := dc3 3 hB
        obtain ⟨⟨hf, C0, T, N, g1, g2, g3, g4, g5, g6⟩, hma⟩ := hWd
        have ha : a < 99 := Nat.lt_of_lt_of_le (List.getElem?_eq_some_iff.mp g1).1 (by decide)
        match st, hw with
        | .retAddr z :: r, hw =>
          have hct : cls t = a := by rcases hth with q | q <;> omega
          exact va_get (D := dX E) hx hb hts g3 hown hKa hP t (obj_at hct ha) g1 b g2 (hts _ g4) (fun _ h9 => h9) (fld_at (t := t) hf hct ha).2.1 hd (nxt hw hP hS hl)
        | .ref q :: r, hw =>
          exact va_get (D := dX E) hx hb hts g3 hown hKa hP q (obj_at hw.1 ha) g1 b g2 (hts _ g4) (fun _ h9 => h9) (fld_at (t := t) hf hw.1 ha).2.1 hd (nxt hw.2 hP hS hl)
        | [], hw => exact hw.elim
        | .int x :: r, hw => exact hw.elim
        | .long x :: r, hw => exact hw.elim
        | .float x :: r, hw => exact hw.elim
        | .double x :: r, hw => exact hw.elim
        | .null :: r, hw => exact hw.elim
      | putfield i =>
        obtain ⟨hd, rfl, -⟩ := dc3 3 hB
        obtain ⟨⟨hf, C0, T, N, g1, g2, g3, g4, ⟨ty0, g5, g5b⟩, g6⟩, hma⟩ := hWd
        have ha : a < 99 := Nat.lt_of_lt_of_le (List.getElem?_eq_some_iff.mp g1).1 (by decide)
        have hct : cls t = a := by rcases hth with q | q <;> omega
        obtain ⟨f1, -, f3⟩ := fld_at (E := E) (h := h) (t := t) hf hct ha
        match st, hw with
        | .int x :: .retAddr z :: r, hw =>
          match l, hw, g6, f3 with
          | [0], hw, g6, f3 =>
            have f4 := of_decide_eq_true (show decide (spc t b = 0) = true from f3)
            refine va_put (D := dX E) (v := .int x) (ty := .int) hx hb hts g3 ty0 g5 g5b hown hKa hP hD hS t (obj_at hct ha) g1 b g2 (hts _ g4) (fun _ h9 => h9) g6.1 g6.2 rfl rfl (by simpa using f1) hd (fun H1 locs1 hP1 hD1 hS1 => nxt hw ?_ hS1 hl)
            have e1 := sI_set (E := E) (h := h) (v := x) hct ha f1
            have e2 : fv E (sI h t b x) t b (spc t b) = .int x := by rw [f4]; show Value.int _ = _; simp [sI, pk_us]
            rw [e2] at e1
            rw [← e1]
            exact hP1
          | [3], hw, g6, f3 =>
            have f4 := of_decide_eq_true (show decide (spc t b = 0) = true from f3)
            have hnb : narrow .boolean (.int x) = .int x ∧ fits .boolean (.int x) = true := by rcases hw.1 with rfl | rfl <;> exact ⟨rfl, rfl⟩
            refine va_put (D := dX E) (v := .int x) (ty := .boolean) hx hb hts g3 ty0 g5 g5b hown hKa hP hD hS t (obj_at hct ha) g1 b g2 (hts _ g4) (fun _ h9 => h9) g6.1 g6.2 hnb.1 hnb.2 (by simpa using f1) hd (fun H1 locs1 hP1 hD1 hS1 => nxt hw.2 ?_ hS1 hl)
            have e1 := sI_set (E := E) (h := h) (v := x) hct ha f1
            have e2 : fv E (sI h t b x) t b (spc t b) = .int x := by rw [f4]; show Value.int _ = _; simp [sI, pk_us]
            rw [e2] at e1
            rw [← e1]
            exact hP1
        | .ref q :: .retAddr z :: r, hw =>
          match l, hw, g6, f3 with
          | [1], hw, g6, f3 =>
            have f4 := of_decide_eq_true (show decide (spc t b = 1) = true from f3)
            refine va_put (D := dX E) (v := .ref (E.1 q)) (ty := .object "java/lang/String") hx hb hts g3 ty0 g5 g5b hown hKa hP hD hS t (obj_at hct ha) g1 b g2 (hts _ g4) (fun _ h9 => h9) g6.1 g6.2 rfl rfl (by simpa using f1) hd (fun H1 locs1 hP1 hD1 hS1 => nxt hw.2 ?_ hS1 hl)
            have e1 := sI_set (E := E) (h := h) (v := nI q) hct ha f1
            have e2 : fv E (sI h t b (nI q)) t b (spc t b) = .ref (E.1 q) := by
              rw [f4]
              show Value.ref (E.1 ((sI h t b (nI q)).1 t b).toNatClampNeg) = _
              have e3 : (sI h t b (nI q)).1 t b = nI q := by simp [sI, pk_us]
              have hq := hw.1.2
              rw [e3, nI_clamp (by omega)]
            rw [e2] at e1
            rw [← e1]
            exact hP1
      | getstatic i =>
        obtain ⟨hd, rfl, -⟩ := dc3 3 hB
        obtain ⟨w1, w2, w3⟩ := hWd
        exact va_gets hx hb (hSx.2.1 a w2 w3) hS hown (hts _ w1) (fun _ h9 => h9) hd (nxt hw hP hS hl)
      | iaload =>
        obtain ⟨hd, rfl, -⟩ := dc3 1 hB
        obtain ⟨q, i, r, rfl, hw⟩ := pIR_of hw
        match b, hw with
        | 0, hw =>
          obtain ⟨a1, t0, a2⟩ := arr1 (E := E) (h := h) hw.1.1
          exact va_iald hx hb hKa hP q t0 a1 a2 hw.1.2 hd (nxt hw.2 hP hS hl)
        | b + 1, hw =>
          exact va_ti hx hb (hSx.1 q hw.1.1.1 hw.1.1.2) hS hw.1.2 rfl hd (nxt hw.2 hP hS hl)
      | baload =>
        obtain ⟨hd, rfl, -⟩ := dc3 1 hB
        obtain ⟨q, i, r, rfl, hw⟩ := pIR_of hw
        obtain ⟨a1, t0, a2⟩ := arr3 (E := E) (h := h) hw.1.1
        exact va_zald hx hb hKa hP q t0 a1 a2 hw.1.2 hd (nxt hw.2 hP hS hl)
      | laload =>
        obtain ⟨hd, rfl, -⟩ := dc3 1 hB
        obtain ⟨q, i, r, rfl, hw⟩ := pIR_of hw
        obtain ⟨a1, t0, a2⟩ := arr2 (E := E) (h := h) hw.1.1
        exact va_lald hx hb hKa hP q t0 a1 a2 hw.1.2 hd (nxt hw.2 hP hS hl)
      | aaload =>
        obtain ⟨hd, rfl, -⟩ := dc3 1 hB
        obtain ⟨q, i, r, rfl, hw⟩ := pIR_of hw
        obtain ⟨a1, a3, C0, t0, a2⟩ := arr4 (E := E) (h := h) hw.1.1
        have hin := hw.1.2
        have hj : i.toNatClampNeg < (shA q).2.2.length := by
          rw [← a3]
          exact Nat.lt_of_not_le (fun q9 => hin (Or.inr q9))
        have e1 : va_rf (((shA q).2.2[i.toNatClampNeg]?).map E.1) = rv E t (.ref (rfa q i.toNatClampNeg)) := by
          unfold rfa
          rw [List.getD_eq_getElem?_getD, List.getElem?_eq_getElem hj]
          rfl
        refine va_aldq hx hb hKa hP q t0 a1 a2 hw.1.2 hd ?_
        rw [e1]
        exact nxt hw.2 hP hS hl
      | iastore =>
        obtain ⟨hd, rfl, -⟩ := dc3 1 hB
        obtain ⟨q, i, x, r, rfl, hw⟩ := pIIR_of hw
        obtain ⟨a1, t0, a2⟩ := arr1 (E := E) (h := h) hw.1.1
        exact va_iast hx hb hKa hP hD hS q t0 a1 a2 hw.1.2 hd (fun H1 locs1 hP1 hD1 hS1 => nxt hw.2 (by rw [← sA_set (Or.inl hw.1.1)]; exact hP1) hS1 hl)
      | bastore =>
        obtain ⟨hd, rfl, -⟩ := dc3 1 hB
        obtain ⟨q, i, x, r, rfl, hw⟩ := pIIR_of hw
        obtain ⟨a1, t0, a2⟩ := arr3 (E := E) (h := h) hw.1.1
        have e1 : vp_nar .boolean x = x := by rcases hw.2.1 with rfl | rfl <;> rfl
        refine va_zast hx hb hKa hP hD hS q t0 a1 a2 hw.1.2 hd (fun H1 locs1 hP1 hD1 hS1 => nxt hw.2.2 ?_ hS1 hl)
        rw [e1] at hP1
        rw [← sA_set (Or.inr hw.1.1)]
        exact hP1
      | lastore =>
        obtain ⟨hd, rfl, -⟩ := dc3 1 hB
        obtain ⟨q, i, x, r, rfl, hw⟩ := pJIR_of hw
        obtain ⟨a1, t0, a2⟩ := arr2 (E := E) (h := h) hw.1.1
        exact va_last hx hb hKa hP hD hS q t0 a1 a2 hw.1.2 hd (fun H1 locs1 hP1 hD1 hS1 => nxt hw.2 (by rw [← sL_set hw.1.1]; exact hP1) hS1 hl)
      | arraylength =>
        obtain ⟨hd, rfl, -⟩ := dc3 1 hB
        obtain ⟨q, r, rfl, hw⟩ := pR_of hw
        match b, hw with
        | 0, hw =>
          rcases hw.1 with k1 | k1 | k1
          · obtain ⟨a1, t0, a2⟩ := arr1 (E := E) (h := h) k1
            exact va_alen hx hb hKa hP q t0 a1 a2 rfl hd (nxt hw.2 hP hS hl)
          · obtain ⟨a1, t0, a2⟩ := arr2 (E := E) (h := h) k1
            exact va_alen hx hb hKa hP q t0 a1 a2 rfl hd (nxt hw.2 hP hS hl)
          · obtain ⟨a1, t0, a2⟩ := arr3 (E := E) (h := h) k1
            exact va_alen hx hb hKa hP q t0 a1 a2 rfl hd (nxt hw.2 hP hS hl)
        | b + 1, hw =>
          exact va_tlen hx hb (hSx.1 q hw.1.1 hw.1.2) hS rfl hd (nxt hw.2 hP hS hl)
      | invokevirtual i =>
        obtain ⟨hd, rfl, -⟩ := dc3 3 hB
        rcases ifX_of hw with ⟨hbl, hw⟩ | ⟨hbl, hw⟩
        · exact hWd.1 hbl E L t p e R s m args below meth c H locs cells slots A Qm lsr pc st h _ C hP hS hl.1 hd hw (fun st2 h2 H2 locs2 hk hP2 hS2 => nxt hk hP2 hS2 hl)
        · obtain ⟨c1, c2, c3⟩ := hWd.2 hbl
          obtain ⟨vs, as, r0, rfl, hn, hrev, hno, hw⟩ := pop_of hw
          rw [List.append_nil] at hw
          obtain ⟨vv, q, r, rfl, hvv, hw⟩ := pV_of hw
          rcases ifX_of hw with ⟨hct, hw⟩ | ⟨-, hw⟩
          · have hct2 : cats r ≤ 8 := Nat.le_of_ble_eq_true hct
            have est : (vs ++ vv :: r).map (rv E t) = (as.map (rv E t)).reverse ++ .ref (E.1 q) :: r.map (rv E t) := by rw [List.map_append, hrev E, List.map_cons, hvv E]
            rw [est]
            match l, hw with
            | 0 :: l2, hw => exact goI C hS (runVX C hP hS hl.1 c1 c2 c3 hd hct2 hn hno hw.1 hw.2.2.1 hw.2.2.2) (fun x h2 H2 locs2 hk hP2 hS2 => nxt hk hP2 hS2 hl)
            | 1 :: l2, hw => exact goL C hS (runVX C hP hS hl.1 c1 c2 c3 hd hct2 hn hno hw.1 hw.2.2.1 hw.2.2.2) (fun x h2 H2 locs2 hk hP2 hS2 => nxt hk hP2 hS2 hl)
            | 2 :: l2, hw => exact goV C hS (runVX C hP hS hl.1 c1 c2 c3 hd hct2 hn hno hw.1 hw.2.2.1 hw.2.2.2) (fun h2 H2 locs2 hk hP2 hS2 => nxt hk hP2 hS2 hl)
            | [], hw => exact goA (post := fun q2 h2 => wpx E L mi t K Q n cs ls (.ref q2 :: r) h2) C hS (runVX C hP hS hl.1 c1 c2 c3 hd hct2 hn hno hw.1 hw.2.2.1 hw.2.2.2) (fun q2 h2 H2 locs2 hk hP2 hS2 => nxt hk hP2 hS2 hl)
            | (k + 3) :: l2, hw => exact goA (post := fun q2 h2 => wpx E L mi t K Q n cs ls (.ref q2 :: r) h2) C hS (runVX C hP hS hl.1 c1 c2 c3 hd hct2 hn hno hw.1 hw.2.2.1 hw.2.2.2) (fun q2 h2 H2 locs2 hk hP2 hS2 => nxt hk hP2 hS2 hl)
          · exact hw.elim
      | invokestatic i =>
        obtain ⟨hd, rfl, -⟩ := dc3 3 hB
        rcases ifX_of hw with ⟨hbl, hw⟩ | ⟨hbl, hw⟩
        · exact hWd.1 hbl E L t p e R s m args below meth c H locs cells slots A Qm lsr pc st h _ C hP hS hl.1 hd hw (fun st2 h2 H2 locs2 hk hP2 hS2 => nxt hk hP2 hS2 hl)
        · obtain ⟨c1, c2, c3⟩ := hWd.2 hbl
          obtain ⟨vs, as, r0, rfl, hn, hrev, hno, hw⟩ := pop_of hw
          rw [List.append_nil] at hw
          obtain ⟨q, hq⟩ : ∃ q : Nat, q = 0 := ⟨0, rfl⟩
          obtain ⟨r, rfl⟩ : ∃ r, r = r0 := ⟨r0, rfl⟩
          rcases ifX_of hw with ⟨hct, hw⟩ | ⟨-, hw⟩
          · have hct2 : cats r ≤ 8 := Nat.le_of_ble_eq_true hct
            have est : (vs ++ r).map (rv E t) = (as.map (rv E t)).reverse ++ r.map (rv E t) := by rw [List.map_append, hrev E]
            rw [est]
            match l, hw with
            | 0 :: l2, hw => exact goI C hS (runSX C hP hS hl.1 c1 c2 c3 hd hct2 hn hno hw.1 hw.2.2.2) (fun x h2 H2 locs2 hk hP2 hS2 => nxt hk hP2 hS2 hl)
            | 1 :: l2, hw => exact goL C hS (runSX C hP hS hl.1 c1 c2 c3 hd hct2 hn hno hw.1 hw.2.2.2) (fun x h2 H2 locs2 hk hP2 hS2 => nxt hk hP2 hS2 hl)
            | 2 :: l2, hw => exact goV C hS (runSX C hP hS hl.1 c1 c2 c3 hd hct2 hn hno hw.1 hw.2.2.2) (fun h2 H2 locs2 hk hP2 hS2 => nxt hk hP2 hS2 hl)
            | [], hw => exact goA (post := fun q2 h2 => wpx E L mi t K Q n cs ls (.ref q2 :: r) h2) C hS (runSX C hP hS hl.1 c1 c2 c3 hd hct2 hn hno hw.1 hw.2.2.2) (fun q2 h2 H2 locs2 hk hP2 hS2 => nxt hk hP2 hS2 hl)
            | (k + 3) :: l2, hw => exact goA (post := fun q2 h2 => wpx E L mi t K Q n cs ls (.ref q2 :: r) h2) C hS (runSX C hP hS hl.1 c1 c2 c3 hd hct2 hn hno hw.1 hw.2.2.2) (fun q2 h2 H2 locs2 hk hP2 hS2 => nxt hk hP2 hS2 hl)
          · exact hw.elim
      | ireturn =>
        obtain ⟨hd, rfl, hx2⟩ := dc3 1 hB
        have hx3 : ((decide (l = [1]) || decide (l = [2])) || decide (¬ (md mi).2.2.2.1 = some .boolean)) = true := hx2
        simp only [Bool.or_eq_true, decide_eq_true_eq] at hx3
        match st, hw with
        | [.int x], hw =>
          obtain ⟨hq, h1⟩ := rbX_of hw
          exact hret (.int x) h H locs lsr pc hq (fun hb9 => (h1 (hx3.resolve_right (fun h9 => h9 hb9))).elim (fun e9 => Or.inl (by rw [e9])) (fun e9 => Or.inr (by rw [e9]))) hP hS hd
      | lreturn =>
        obtain ⟨hd, rfl, hx2⟩ := dc3 1 hB
        have hrb : ∀ u, rtX mi u := fun u h9 => absurd h9 (of_decide_eq_true hx2)
        match st, hw with
        | [.long x], hw => exact hret (.long x) h H locs lsr pc hw (hrb _) hP hS hd
      | areturn =>
        obtain ⟨hd, rfl, hx2⟩ := dc3 1 hB
        have hrb : ∀ u, rtX mi u := fun u h9 => absurd h9 (of_decide_eq_true hx2)
        match st, hw with
        | [.ref x], hw => exact hret (.ref x) h H locs lsr pc hw (hrb _) hP hS hd
      | return_ =>
        obtain ⟨hd, rfl, hx2⟩ := dc3 1 hB
        have hrb : ∀ u, rtX mi u := fun u h9 => absurd h9 (of_decide_eq_true hx2)
        match st, hw with
        | [], hw => exact hret .null h H locs lsr pc hw (hrb _) hP hS hd
      | _ => exact (show False from hw).elim
