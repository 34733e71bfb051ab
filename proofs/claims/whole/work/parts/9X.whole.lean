/-! THE CLAIM OUT OF ONE WALK OF THE LAW'S BODY. Your part is whole_start (and what it stands on); all else here is the same for every law, but numbers. -/
def R_law : String := "LargerWithinLaw"
def lw_P (b : Addr) (xs : List Int32) (args : Array Value) (s : State) : Prop := args = #[.ref b] ∧ s.IntsAt b xs ∧ xs.length ≤ 3072 ∧ (Jvm.Cond.and given_1 narrow_1).before args s = true
def lw_Q (_ : Array Value) (s : State) (o : Outcome) (t : State) : Prop := o = .returned (some (.int 1)) ∧ Framed s o t [] 600000 7302250
def lw_Z (below : List Frame) (a : Array Value) (s : State) : State → Prop := fun t => ∃ o, t.status = .running ∧ Ended t below o ∧ lw_Q a s o t
/-- the law's own end, with 1 on the stack, nothing written that was there before, its room as the claim has it -/
theorem lw_ret {p : Program} {l : Launch} {e : Env} {s : State} {m : MethodId} {below : List Frame} {meth : Method} {c : Code} {b : Nat} (hx : p.tables.exec = Jvm.exec) (hb : c.code = code) (hr : meth.sig.returnType = ret) (hlocks : meth.locks = false) {pc : Nat} {H : Heap} {ls : Array Slot} (hdg : decode code pc = .ok (.ireturn, 1)) : W p l e room_1 s m #[Value.ref b] below meth c H [] 600000 7302250 (lw_Z below #[Value.ref b] s) (F0 m pc ls [.int 1]) := by
  intro T hT X
  obtain ⟨fs, hret, hrun, hended, hW, hframe⟩ := X.leave (v := some (.int 1)) (hlocks := hlocks) (fun h => by rw [hr] at h; cases h)
  have hmeth' : T.vm.method? m = some meth := X.method'
  refine ⟨T.setFrames fs, ?_, .returned (some (.int 1)), hrun, hended, rfl, ⟨_, rfl⟩, hW, hframe⟩
  jvm_step X.here [X.here.top, hx, hb, hdg, hmeth', hr, ret, narrow_b1]
  (try refine ⟨rfl, ?_⟩); (try refine ⟨rfl, ?_⟩)
  first | (intro acts; rw [hret _ acts rfl rfl rfl]) | rw [hret _ _ rfl rfl rfl]
  exact Steps.refl _
/-- what holds at the law's entry: the machine, the code, the tables' words (any of lw_tbl by 'hts w (by decide +kernel)'), the script of L ints xs at the cell b, what the Statement gives of the start (any of its parts by flat_of_before) -/
def lw_At (p : Program) (s : State) (m : MethodId) (meth : Method) (c : Code) (b L : Nat) (xs : Nat → Int32) : Prop :=
  p.tables.exec = Jvm.exec ∧ c.code = code ∧ meth.sig.returnType = ret ∧ c.maxLocals = 4 ∧ s.vm.findClass R_law = some m.cls ∧ (∀ w ∈ lw_tbl, w.before #[Value.ref b] s = true) ∧ va_X b L xs s s.heap ∧ b < s.heap.size ∧ meth.locks = false ∧ (Jvm.Cond.and given_1 narrow_1).before #[Value.ref b] s = true
/-! ===== from the loop on (printed by wip/gen/start.py) ===== -/
theorem arrV_ext {cI : ClassId} {N : Nat} {f g : Nat → Value} (h : ∀ j, j < N → f j = g j) : arrV cI N f = arrV cI N g := by
  unfold arrV
  congr 2
  funext j
  exact h j.1 j.2
theorem va_Pq {D : va_G} {cl : List vw_C} {ws : va_W} {H : Heap} (h : va_P D cl ws H) (k : Nat) {a n : Nat} {cA : ClassId} {f : Nat → Option Nat} (g : Nat → Option Nat) (he : ws[k]? = some (a, .inl (cA, n, .inr (.inr (.inr (.inr f)))))) (hfg : ∀ j, j < n → f j = g j) : va_P D cl (ws.set k (a, .inl (cA, n, .inr (.inr (.inr (.inr g)))))) H := by
  have hl := (List.getElem?_eq_some_iff.mp he).1
  intro i q hq
  by_cases e : i = k
  · subst e
    rw [List.getElem?_set_self hl] at hq
    cases hq
    have h0 : H[a]? = some (vp_cell cA (n, .inr (.inr (.inr (.inr f))))) := h i _ he
    show H[a]? = some (vp_cell cA (n, .inr (.inr (.inr (.inr g)))))
    rw [h0, vp_cell_q, vp_cell_q, arrV_ext (fun j hj => by rw [hfg j hj])]
  · rw [List.getElem?_set_ne (Ne.symm e)] at hq
    exact h i q hq
theorem D_inj {A : Nat → Prop} {ws : va_W} (h : va_D A ws) {i j : Nat} (hi : i < ws.length) (hj : j < ws.length) (e : (ws.map Prod.fst).getD i 0 = (ws.map Prod.fst).getD j 0) : i = j := by
  have key : ∀ k (hk : k < ws.length), (ws.map Prod.fst).getD k 0 = (ws[k]).1 := fun k hk => by
    rw [List.getD_eq_getElem?_getD, List.getElem?_map, List.getElem?_eq_getElem hk]; rfl
  rw [key i hi, key j hj] at e
  exact h.1 i j _ _ (List.getElem?_eq_getElem hi) (List.getElem?_eq_getElem hj) e
theorem D_in {A : Nat → Prop} {ws : va_W} (h : va_D A ws) {i : Nat} (hi : i < ws.length) : A ((ws.map Prod.fst).getD i 0) := by
  have e : (ws.map Prod.fst).getD i 0 = (ws[i]).1 := by
    rw [List.getD_eq_getElem?_getD, List.getElem?_map, List.getElem?_eq_getElem hi]; rfl
  rw [e]
  exact h.2 i _ (List.getElem?_eq_getElem hi)
theorem law_fin {p : Program} {e : Env} {s : State} {m : MethodId} {below : List Frame} {meth : Method} {c : Code} (l : Launch) {b L : Nat} {xs : Nat → Int32} (hL : L ≤ 3072) (C0 : lw_At p s m meth c b L xs) {AL : List Nat} {KL : List ClassId} {dC : Nat → ClassId} {dI : Nat → Nat → Nat} {t1 t2 t3 t4 : Nat} {aK aV : Nat → Nat} {g0 g1 g2 g3 g4 : Nat → Int32} (e0 : ∀ j, j < 24 → g0 j = -1) (e1 : ∀ j, j < 24 → g1 j = -1) (e2 : ∀ j, j < 24 → g2 j = -1) (e3 : ∀ j, j < 24 → g3 j = -1) (e4 : ∀ j, j < 24 → g4 j = -1) {ws : va_W} {H : Heap} {locs : List Loc} {cells slots : Nat} {ls : Array Slot} (hK : va_K (dC, dI) vwCl (tysX (E0 AL KL dC dI L xs l b t1 t2 t3 t4 aK aV)) s) (hP : va_P (dC, dI) vwCl (worldX (E0 AL KL dC dI L xs l b t1 t2 t3 t4 aK aV) (hp0 g0 g1 g2 g3 g4)) H) (hD : va_D (fun q : Nat => s.heap.size ≤ q) ws) (hlen : ws.length = 96) (hAL : AL = ws.map Prod.fst) (hSx : Sx (E0 AL KL dC dI L xs l b t1 t2 t3 t4 aK aV) (fun q : Nat => s.heap.size ≤ q) s) (hS : va_S (fun q : Nat => s.heap.size ≤ q) s.heap H locs) (hl : lv_has ls 4 [(0, .ref ((E0 AL KL dC dI L xs l b t1 t2 t3 t4 aK aV).1 900)), (1, .ref ((E0 AL KL dC dI L xs l b t1 t2 t3 t4 aK aV).1 0)), (2, .ref ((E0 AL KL dC dI L xs l b t1 t2 t3 t4 aK aV).1 74))]) (hc : cells ≤ 600000) (hs : slots ≤ 7302250) : W p l e room_1 s m #[Value.ref b] below meth c H locs cells slots (lw_Z below #[Value.ref b] s) (F0 m 16 ls []) := by
  obtain ⟨hx, hb, hr, hml, hown, hts, hX, hbl, hlocks, hgv⟩ := id C0
  have ea : ∀ i, i < nC → (E0 AL KL dC dI L xs l b t1 t2 t3 t4 aK aV).1 i = (ws.map Prod.fst).getD i 0 := fun i hi => by
    rw [← hAL]; exact if_pos hi
  have hOk : EOk (E0 AL KL dC dI L xs l b t1 t2 t3 t4 aK aV) := fun i j hi hj q => by
    rw [ea i hi, ea j hj] at q
    exact D_inj hD (by rw [hlen]; exact hi) (by rw [hlen]; exact hj) q
  have hA1 : ∀ q, A1 (E0 AL KL dC dI L xs l b t1 t2 t3 t4 aK aV) q → (fun q : Nat => s.heap.size ≤ q) q := fun q hq => by
    obtain ⟨i, hi, rfl⟩ := hq
    rw [ea i hi]
    exact D_in hD (by rw [hlen]; exact hi)
  have w := law_16 (E := (E0 AL KL dC dI L xs l b t1 t2 t3 t4 aK aV)) (L := 40) hOk (by decide) hL (post := fun y _ => y = 1) (fun _ => rfl) (inv_0 e0 e1 e2 e3 e4)
  refine w p e room_1 s m #[Value.ref b] below meth c H locs cells slots (fun q : Nat => s.heap.size ≤ q) _ ls ⟨hx, hb, hml, hown, fun v hv => hts v (tg_tbl hv), hK, hSx, hOk, hA1, ⟨by decide, Nat.le_of_ble_eq_true rfl, Nat.le_of_ble_eq_true rfl, hc, hs⟩, Or.inl rfl⟩ hP (vaD_of hOk hA1 _) hS hl (fun v h' H' locs' lsr' pc' hq hr' hP' hS' hd => ?_)
  match v, hq, hd with
  | .int x, hq, hd =>
    have hx1 : x = 1 := hq
    subst hx1
    exact va_forget (fun q hq => hS'.2.2 q hq) (W.widen (k := 600000) (n := 7302250) hc hs (lw_ret hx hb hr hlocks hd))
theorem dk_law_0 : decode code 0 = .ok (.new 7, 3) := by decide +kernel
theorem dk_law_3 : decode code 3 = .ok (.dup, 1) := by decide +kernel
theorem dk_law_4 : decode code 4 = .ok (.invokespecial 9, 3) := by decide +kernel
theorem dk_law_7 : decode code 7 = .ok (.astore_n 1, 1) := by decide +kernel
theorem dk_law_8 : decode code 8 = .ok (.new 10, 3) := by decide +kernel
theorem dk_law_11 : decode code 11 = .ok (.dup, 1) := by decide +kernel
theorem dk_law_12 : decode code 12 = .ok (.invokespecial 12, 3) := by decide +kernel
theorem dk_law_15 : decode code 15 = .ok (.astore_n 2, 1) := by decide +kernel
