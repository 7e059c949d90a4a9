section PQR
variable {x_length x_cache x_pending x_readPosition : Int32} {x_low x_encoderRange x_decoderRange x_code x_decoderStep : Int64} {x_pulseCounts x_coefs x_energies x_pulses x_decoded x_vec x_sizes x_packet : Nat → Int32}
variable {le : Nat} {pc co pk : Nat → Int32}
theorem pq_rng (x : Int32) {n m : Nat} (hn : n = m + 1) (h : n < 2 ^ 31) : x < 0 ∨ (¬ x < 0 ∧ ¬ x < nI n ∧ ¬ x ≤ nI m ∧ nI n ≤ x) ∨ ∃ j, j < n ∧ x = nI j := by
  cases pk_ix x h with
  | inl a => exact Or.inl a
  | inr a =>
    cases a with
    | inl a =>
      refine Or.inr (Or.inl ?_)
      have a2 := Int32.le_iff_toInt_le.mp a
      rw [nI_toInt h] at a2
      refine ⟨?_, ?_, ?_, a⟩
      · rw [Int32.lt_iff_toInt_lt, pq_z32]; omega
      · rw [Int32.lt_iff_toInt_lt, nI_toInt h]; omega
      · rw [Int32.le_iff_toInt_le, nI_toInt (by omega)]; omega
    | inr a => exact Or.inr (Or.inr a)
theorem pq_upR {f g : Nat → Int32} {N j : Nat} {z : Int32} (h : ∀ i, i < N → f i = g i) : ∀ i, i < N → upd f j z i = upd g j z i := by
  intro i hi
  by_cases e : i = j
  · subst e; rw [pk_us, pk_us]
  · rw [pk_un e, pk_un e]; exact h i hi
end PQR
