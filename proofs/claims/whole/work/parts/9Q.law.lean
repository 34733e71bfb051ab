/-! ===== the law's loop (printed by wip/gen/law.py) ===== -/
section LawL
variable {E : EnvX} {L : Nat}
theorem lgc_0 (x : Int64) : lg_cmp x x = 0 := by
  unfold lg_cmp
  rw [if_neg (fun q : x > x => by have := i64_lt.mp q; omega), if_pos rfl]
theorem law_step (hE : EOk E) (hl : 20 ≤ L - 1) {h : Hp} {K : Nat} {post : Int32 → Hp → Prop} {v3 : Int32} (I : Inv h K) (hK : K + 60 ≤ 100000) (hn : ¬ nI (cln E 900) - 6 < v3) (c0 : inC E 900 v3) (c1 : inC E 900 (v3 + 1)) (c2 : inC E 900 (v3 + 2)) (c3 : inC E 900 (v3 + 3)) (c4 : inC E 900 (v3 + 4)) (c5 : inC E 900 (v3 + 5)) (H : ∀ h2, Inv h2 (K + 60) → at_Law_law_1714 E L h2 post v3) : at_Law_law_18 E L h post v3 := by
  refine B_Law_law_18 ⟨⟨by decide, by decide⟩, brF hn ⟨c0, ?_⟩⟩
  refine ⟨fun _ => ⟨c1, c2, c3, c4, c5, ConI.mono (eq_feed hE hl I hK _ _ _ _ _ ) (fun y h1 q => ⟨c1, c2, c3, c4, c5, ConI.mono q (fun y2 h2 r => brT r.1 (H h2 r.2))⟩)⟩, ?_⟩
  refine ⟨fun _ => ⟨c1, ConI.mono (eq_store hE hl I hK _ ) (fun y h1 q => ⟨c1, ConI.mono q (fun y2 h2 r => brT r.1 (H h2 r.2))⟩)⟩, ?_⟩
  refine ⟨fun _ => ⟨c1, ConI.mono (eq_fault hE hl I hK _ ) (fun y h1 q => ⟨c1, ConI.mono q (fun y2 h2 r => brT r.1 (H h2 r.2))⟩)⟩, ?_⟩
  refine ⟨fun _ => ⟨c1, c2, ConI.mono (eq_item hE hl I hK _ _ ) (fun y h1 q => ⟨c1, c2, ConI.mono q (fun y2 h2 r => brT r.1 (H h2 r.2))⟩)⟩, ?_⟩
  refine ⟨fun _ => ⟨c1, c2, ConI.mono (eq_lies hE hl I hK _ _ ) (fun y h1 q => ⟨c1, c2, ConI.mono q (fun y2 h2 r => brT r.1 (H h2 r.2))⟩)⟩, ?_⟩
  refine ⟨fun _ => ⟨c1, c2, ConI.mono (eq_box hE hl I hK _ _ ) (fun y h1 q => ⟨c1, c2, ConI.mono q (fun y2 h2 r => brT r.1 (H h2 r.2))⟩)⟩, ?_⟩
  refine ⟨fun _ => ⟨c1, c2, ConI.mono (eq_may hE hl I hK _ _ ) (fun y h1 q => ⟨c1, c2, ConI.mono q (fun y2 h2 r => brT r.1 (H h2 r.2))⟩)⟩, ?_⟩
  refine ⟨fun _ => ⟨c1, c2, ConI.mono (eq_put hE hl I hK _ _ ) (fun y h1 q => ⟨c1, c2, ConI.mono q (fun y2 h2 r => brT r.1 (H h2 r.2))⟩)⟩, ?_⟩
  refine ⟨fun _ => ⟨c1, ConI.mono (eq_take hE hl I hK _ ) (fun y h1 q => ⟨c1, ConI.mono q (fun y2 h2 r => brT r.1 (H h2 r.2))⟩)⟩, ?_⟩
  refine ⟨fun _ => ConI.mono (eq_empty hE hl I hK) (fun y h1 q => ConI.mono q (fun y2 h2 r => brT r.1 (H h2 r.2))), ?_⟩
  refine ⟨fun _ => ⟨c1, c2, ConI.mono (eq_over hE hl I hK _ _ ) (fun y h1 q => ⟨c1, c2, ConI.mono q (fun y2 h2 r => brT r.1 (H h2 r.2))⟩)⟩, ?_⟩
  refine ⟨fun _ => ⟨c1, c2, ConI.mono (eq_judge hE hl I hK _ _ ) (fun y h1 q => ⟨c1, c2, ConI.mono q (fun y2 h2 r => brT r.1 (H h2 r.2))⟩)⟩, ?_⟩
  refine ⟨fun _ => ⟨c1, ConI.mono (eq_perform hE hl I hK _ ) (fun y h1 q => ⟨c1, ConI.mono q (fun y2 h2 r => brT r.1 (H h2 r.2))⟩)⟩, ?_⟩
  refine ⟨fun _ => ⟨c1, c2, ConI.mono (eq_packing hE hl I hK _ _ ) (fun y h1 q => ⟨c1, c2, ConI.mono q (fun y2 h2 r => brT r.1 (H h2 r.2))⟩)⟩, ?_⟩
  refine ⟨fun _ => ⟨c1, c2, ConI.mono (eq_how hE hl I hK _ _ ) (fun y h1 q => ⟨c1, c2, ConI.mono q (fun y2 h2 r => brT r.1 (H h2 r.2))⟩)⟩, ?_⟩
  refine ⟨fun _ => ⟨c1, ConI.mono (eq_lost hE hl I hK _ ) (fun y h1 q => ⟨c1, ConI.mono q (fun y2 h2 r => brT r.1 (H h2 r.2))⟩)⟩, ?_⟩
  refine ⟨fun _ => ⟨c1, c2, c3, ConI.mono (eq_most hE hl I hK _ _ _ ) (fun y h1 q => ⟨c1, c2, c3, ConI.mono q (fun y2 h2 r => brT r.1 (H h2 r.2))⟩)⟩, ?_⟩
  refine ⟨fun _ => ⟨c1, c2, ⟨fun q0 => B_Law_law_762 ⟨c3, ConI.mono (eq_household hE hl I hK _ 0 _) (fun y h1 q => ⟨c1, c2, brT q0 (B_Law_law_789 ⟨c3, ConI.mono q (fun y2 h2 r => brT r.1 (H h2 r.2))⟩)⟩)⟩, fun q0 => B_Law_law_762 ⟨c3, ConI.mono (eq_household hE hl I hK _ 1 _) (fun y h1 q => ⟨c1, c2, brF q0 (B_Law_law_789 ⟨c3, ConI.mono q (fun y2 h2 r => brT r.1 (H h2 r.2))⟩)⟩)⟩⟩⟩, ?_⟩
  refine ⟨fun _ => ⟨c1, c2, ⟨fun q0 => B_Law_law_821 ⟨c3, ConI.mono (eq_holds hE hl I hK _ 0 _) (fun y h1 q => ⟨c1, c2, brT q0 (B_Law_law_848 ⟨c3, ConI.mono q (fun y2 h2 r => brT r.1 (H h2 r.2))⟩)⟩)⟩, fun q0 => B_Law_law_821 ⟨c3, ConI.mono (eq_holds hE hl I hK _ 1 _) (fun y h1 q => ⟨c1, c2, brF q0 (B_Law_law_848 ⟨c3, ConI.mono q (fun y2 h2 r => brT r.1 (H h2 r.2))⟩)⟩)⟩⟩⟩, ?_⟩
  refine ⟨fun _ => ⟨c1, c2, ConI.mono (eq_shut hE hl I hK _ _ ) (fun y h1 q => ⟨c1, c2, ConI.mono q (fun y2 h2 r => brT r.1 (H h2 r.2))⟩)⟩, ?_⟩
  refine ⟨fun _ => ⟨c1, c2, c3, ConI.mono (eq_shutIn hE hl I hK _ _ _ ) (fun y h1 q => ⟨c1, c2, c3, ConI.mono q (fun y2 h2 r => brT r.1 (H h2 r.2))⟩)⟩, ?_⟩
  refine ⟨fun _ => ⟨c1, c2, c3, c4, ConI.mono (eq_even hE hl I hK _ _ _ _ ) (fun y h1 q => ⟨c1, c2, c3, c4, ConI.mono q (fun y2 h2 r => brT r.1 (H h2 r.2))⟩)⟩, ?_⟩
  refine ⟨fun _ => ⟨c1, ConI.mono (eq_lightestFor hE hl I hK _ ) (fun y h1 q => ⟨c1, ConI.mono q (fun y2 h2 r => brT r.1 (H h2 r.2))⟩)⟩, ?_⟩
  refine ⟨fun _ => ⟨c1, ConI.mono (eq_nest hE hl I hK _ ) (fun y h1 q => ⟨c1, ConI.mono q (fun y2 h2 r => brT r.1 (H h2 r.2))⟩)⟩, ?_⟩
  refine ⟨fun _ => ⟨c1, ConI.mono (eq_voyage hE hl I hK _ ) (fun y h1 q => ⟨c1, ConI.mono q (fun y2 h2 r => brT r.1 (H h2 r.2))⟩)⟩, ?_⟩
  refine ⟨fun _ => ⟨c1, c2, ConI.mono (eq_voyages hE hl I hK _ _ ) (fun y h1 q => ⟨c1, c2, ConI.mono q (fun y2 h2 r => brT r.1 (H h2 r.2))⟩)⟩, ?_⟩
  refine ⟨fun _ => ⟨c1, c2, c3, c4, ConI.mono (eq_chest hE hl I hK _ _ _ _ ) (fun y h1 q => ⟨c1, c2, c3, c4, ConI.mono q (fun y2 h2 r => brT r.1 (H h2 r.2))⟩)⟩, ?_⟩
  refine ⟨fun _ => ⟨c1, c2, c3, c4, c5, ⟨fun q0 => B_Law_law_1179 (ConI.mono (eq_sure hE hl I hK _ _ _ _ 0) (fun y h1 q => ⟨c1, c2, c3, c4, c5, brT q0 (B_Law_law_1216 (ConI.mono q (fun y2 h2 r => brT r.1 (H h2 r.2))))⟩)), fun q0 => B_Law_law_1179 (ConI.mono (eq_sure hE hl I hK _ _ _ _ 1) (fun y h1 q => ⟨c1, c2, c3, c4, c5, brF q0 (B_Law_law_1216 (ConI.mono q (fun y2 h2 r => brT r.1 (H h2 r.2))))⟩))⟩⟩, ?_⟩
  refine ⟨fun _ => ⟨c1, c2, c3, c4, ConI.mono (eq_look hE hl I hK _ _ _ _ ) (fun y h1 q => ⟨c1, c2, c3, c4, ConI.mono q (fun y2 h2 r => brT r.1 (H h2 r.2))⟩)⟩, ?_⟩
  refine ⟨fun _ => ⟨c1, c2, c3, c4, ConI.mono (eq_looks hE hl I hK _ _ _ _ ) (fun y h1 q => ⟨c1, c2, c3, c4, ConI.mono q (fun y2 h2 r => brT r.1 (H h2 r.2))⟩)⟩, ?_⟩
  refine ⟨fun _ => ⟨c1, c2, c3, c4, ConI.mono (eq_sounded hE hl I hK _ _ _ _ ) (fun y h1 q => ⟨c1, c2, c3, c4, ConI.mono q (fun y2 h2 r => brT r.1 (H h2 r.2))⟩)⟩, ?_⟩
  refine ⟨fun _ => ⟨c1, ConI.mono (eq_needs hE hl I hK _ ) (fun y h1 q => ⟨c1, ConI.mono q (fun y2 h2 r => brT r.1 (H h2 r.2))⟩)⟩, ?_⟩
  refine ⟨fun _ => ⟨c1, c2, c3, ConI.mono (eq_room hE hl I hK _ _ _ ) (fun y h1 q => ⟨c1, c2, c3, ConI.mono q (fun y2 h2 r => brT r.1 (H h2 r.2))⟩)⟩, ?_⟩
  refine ⟨fun _ => ⟨c1, ConI.mono (eq_deepest hE hl I hK _ ) (fun y h1 q => ⟨c1, ConI.mono q (fun y2 h2 r => brT r.1 (H h2 r.2))⟩)⟩, ?_⟩
  refine ⟨fun _ => ⟨c1, c2, ConI.mono (eq_carriers hE hl I hK _ _ ) (fun y h1 q => ⟨c1, c2, ConI.mono q (fun y2 h2 r => brT r.1 (H h2 r.2))⟩)⟩, ?_⟩
  refine ⟨fun _ => ⟨c1, c2, c3, ConI.mono (eq_numbers hE hl I hK _ _ _ ) (fun y h1 q => ⟨c1, c2, c3, ConI.mono q (fun y2 h2 r => brT r.1 (H h2 r.2))⟩)⟩, ?_⟩
  refine ⟨fun _ => ⟨c1, c2, c3, c4, ConL.mono (eq_write hE hl I hK _ _ _) (fun y h1 q => ⟨c1, c2, c3, c4, ConL.mono q (fun y2 h2 r => brT (by rw [r.1]; exact lgc_0 _) (H h2 r.2))⟩)⟩, ?_⟩
  refine ⟨fun _ => ⟨c1, ConI.mono (eq_copy hE hl I hK _ ) (fun y h1 q => ⟨c1, ConI.mono q (fun y2 h2 r => brT r.1 (H h2 r.2))⟩)⟩, ?_⟩
  refine ⟨fun _ => ⟨c1, ConI.mono (eq_image hE hl I hK _ ) (fun y h1 q => ⟨c1, ConI.mono q (fun y2 h2 r => brT r.1 (H h2 r.2))⟩)⟩, ?_⟩
  refine ⟨fun _ => ⟨c1, ConI.mono (eq_restore hE hl I hK _ ) (fun y h1 q => ⟨c1, ConI.mono q (fun y2 h2 r => brT r.1 (H h2 r.2))⟩)⟩, ?_⟩
  refine ⟨fun _ => ⟨c1, ConI.mono (eq_count hE hl I hK _ ) (fun y h1 q => ⟨c1, ConI.mono q (fun y2 h2 r => brT r.1 (H h2 r.2))⟩)⟩, ?_⟩
  exact fun _ => H h (I.keep EqS.rfl' I.2.2.2.2.2.2 (by omega) hK)
theorem law_end {len j : Nat} (h1 : len ≤ 3072) (h2 : j ≤ 4000) : (nI len - 6 < nI j) ↔ len < j + 6 := by
  by_cases c : 6 ≤ len
  · rw [show (6 : Int32) = nI 6 from rfl, nI_sub c, nIt (by omega) (by omega)]; omega
  · have e : (nI len - 6).toInt = (len : Int) - 6 := by
      rcases (show len = 0 ∨ len = 1 ∨ len = 2 ∨ len = 3 ∨ len = 4 ∨ len = 5 by omega) with rfl | rfl | rfl | rfl | rfl | rfl <;> decide
    rw [i32_lt, e, nI_int (by omega)]; omega
theorem law_loop (hE : EOk E) (hl : 21 ≤ L) (hlen : cln E 900 ≤ 3072) {post : Int32 → Hp → Prop} (HP : ∀ h, post 1 h) : ∀ f c h, c + f = 513 → Inv h (60 * c) → at_Law_law_18 E L h post (nI (6 * c)) := by
  intro f
  induction f with
  | zero =>
    intro c h hc I
    refine B_Law_law_18 ⟨⟨by decide, by decide⟩, brT ?_ (HP h)⟩
    rw [law_end hlen (by omega)]; omega
  | succ f ih =>
    intro c h hc I
    by_cases q : cln E 900 < 6 * c + 6
    · refine B_Law_law_18 ⟨⟨by decide, by decide⟩, brT ?_ (HP h)⟩
      rw [law_end hlen (by omega)]; exact q
    · have ic : ∀ t, t < 6 → inC E 900 (nI (6 * c + t)) := fun t ht => ⟨⟨by decide, by decide⟩, vp_in_nI (by omega) (by omega)⟩
      have ad : ∀ t, nI (6 * c) + nI t = nI (6 * c + t) := fun t => nI_add _ _
      refine law_step hE (by omega) I (by omega) (by rw [law_end hlen (by omega)]; exact q) (ic 0 (by decide)) ?_ ?_ ?_ ?_ ?_ (fun h2 I2 => B_Law_law_1714 ?_)
      · rw [show (1 : Int32) = nI 1 from rfl, ad]; exact ic 1 (by decide)
      · rw [show (2 : Int32) = nI 2 from rfl, ad]; exact ic 2 (by decide)
      · rw [show (3 : Int32) = nI 3 from rfl, ad]; exact ic 3 (by decide)
      · rw [show (4 : Int32) = nI 4 from rfl, ad]; exact ic 4 (by decide)
      · rw [show (5 : Int32) = nI 5 from rfl, ad]; exact ic 5 (by decide)
      · rw [show (6 : Int32) = nI 6 from rfl, ad, show 6 * c + 6 = 6 * (c + 1) by omega]
        exact ih (c + 1) h2 (by omega) (by rw [show 60 * (c + 1) = 60 * c + 60 by omega]; exact I2)
theorem law_16 (hE : EOk E) (hl : 21 ≤ L) (hlen : cln E 900 ≤ 3072) {post : Int32 → Hp → Prop} (HP : ∀ h, post 1 h) {h : Hp} (I : Inv h 0) : at_Law_law_16 E L h post := B_Law_law_16 (law_loop hE hl hlen HP 513 0 h (by omega) I)
end LawL
