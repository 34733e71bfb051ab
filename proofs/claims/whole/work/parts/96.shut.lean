/-! ===== shut in: pure part ===== -/
section ShutP
variable {pk : Nat → Nat} {tv : Nat → Nat → Nat}
theorem wi_t {d : Nat} : ∀ {n c : Nat}, wi pk d n c = true → ∃ m, itn pk (m + 1) c = d
  | 0, c, h => by cases h
  | n + 1, c, h => by
    simp only [wi] at h
    split at h
    · cases h
    · split at h
      · rename_i q; exact ⟨0, q⟩
      · obtain ⟨m, hm⟩ := wi_t h
        exact ⟨m + 1, hm⟩
theorem wi_iff (hA : acy pk) {d c : Nat} (hd : d ≠ 0) (hc : c ≤ 24) : wi pk d 8 c = true ↔ ∃ m, itn pk (m + 1) c = d := by
  refine ⟨fun h => wi_t h, fun ⟨m, hm⟩ => ?_⟩
  cases h : wi pk d 8 c
  · have m8 : m < 8 := Classical.byContradiction fun z => by
      have := itn_z (hA c hc) (show 9 ≤ m + 1 by omega)
      omega
    exact absurd hm (wi_f hd h m m8)
  · rfl
theorem itn_add (n : Nat) : ∀ m c, itn pk (m + n) c = itn pk n (itn pk m c)
  | 0, c => by rw [Nat.zero_add]; rfl
  | m + 1, c => by
    rw [show m + 1 + n = (m + n) + 1 by omega, itn_s, itn_add n m, ← itn_s]
end ShutP
