/-! the constructors -/
def pq_tu (m : Nat) (t : Nat → Int32) : Prop := ∀ j, j < m → t j = nI (pq_t j)
theorem pq_tu_s {m : Nat} {t : Nat → Int32} (h : pq_tu m t) : pq_tu (m + 1) (upd t m (nI (pq_t m))) := by
  intro j hj
  by_cases e : j = m
  · subst e; exact pk_us
  · rw [pk_un e]; exact h j (by omega)
theorem pq_tu_V {m : Nat} {t : Nat → Int32} (h : pq_tu m t) {n k : Nat} (hm : n * 17 + k < m) : t (n * 17 + k) = nI (pq_V n k) := h _ hm
theorem pq_tu_17 : ∀ j, j < 17 → upd (fun _ => (0 : Int32)) 0 1 j = nI (pq_t j) := by decide +kernel
theorem pq_t0 : ∀ j, j < 17 → nI (pq_t j) = if j = 0 then 1 else 0 := by decide +kernel
section PQN
variable {x_length x_cache x_pending x_readPosition : Int32} {x_low x_encoderRange x_decoderRange x_code x_decoderStep : Int64} {x_pulseCounts x_coefs x_energies x_pulses x_decoded x_vec x_sizes x_packet : Nat → Int32}
theorem px_f19 {post : St2 → Prop} {J : Int32 → (Nat → Int32) → (Nat → Int32) → (Nat → Int32) → (Nat → Int32) → (Nat → Int32) → (Nat → Int32) → (Nat → Int32) → (Nat → Int32) → Prop} {n : Nat} (hn : n < 8)
    (K : ∀ t : Nat → Int32, pq_tu ((n + 1) * 17 + 17) t → J (nI (n + 1 + 1)) x_pulseCounts x_coefs x_energies x_pulses x_decoded x_vec t x_packet) : ∀ d k (t : Nat → Int32), k + d = 17 → pq_tu ((n + 1) * 17 + k) t →
    wX_fillSizes_19 post J (nI (n + 1)) x_length x_low x_encoderRange x_cache x_pending x_readPosition x_decoderRange x_code x_decoderStep (d + 1) (nI (pq_S (pq_V n) k)) (nI k) x_pulseCounts x_coefs x_energies x_pulses x_decoded x_vec t x_packet := by
  intro d
  induction d with
  | zero =>
    intro k t hk ht
    have e : k = 17 := by omega
    subst e
    exact br_t (nI_lt (a := 16) (by decide) (by decide)) (nm_r (nI_1 (n + 1)) (K t ht))
  | succ d ih =>
    intro k t hk ht
    have e1 : (nI (n + 1) - 1) * 17 + nI k = nI (n * 17 + k) := by rw [nI_pred, pq_i17]
    refine br_f (nI_nlt (a := 16) (by omega) (by decide)) ⟨pk_in (n * 17 + k) 153 (by omega) e1, nm_r (e' := nI (pq_V n k)) (by rw [e1, nI_clamp (by omega), pq_tu_V ht (by omega)]) ⟨pk_in ((n + 1) * 17 + k) 153 (by omega) (pq_i17 _ _), nm_r (e' := upd t ((n + 1) * 17 + k) (nI (pq_t ((n + 1) * 17 + k)))) ?_ (nm_r (nI_add _ _) (nm_r (nI_1 k) (ih (k + 1) _ (by omega) (pq_tu_s ht))))⟩⟩
    rw [pq_i17, nI_clamp (by omega), pq_2i, nI_add, ← pq_row n hn k (by omega)]
    rfl
theorem px_f9 {post : St2 → Prop} (K : ∀ t : Nat → Int32, pq_tb t → post (x_length, x_low, x_encoderRange, x_cache, x_pending, x_readPosition, x_decoderRange, x_code, x_decoderStep, x_pulseCounts, x_coefs, x_energies, x_pulses, x_decoded, x_vec, t, x_packet)) : ∀ d n (t : Nat → Int32), n + d = 8 → pq_tu ((n + 1) * 17) t →
    wX_fillSizes_9 post x_length x_low x_encoderRange x_cache x_pending x_readPosition x_decoderRange x_code x_decoderStep (d + 1) (nI (n + 1)) x_pulseCounts x_coefs x_energies x_pulses x_decoded x_vec t x_packet := by
  intro d
  induction d with
  | zero =>
    intro n t hn ht
    have e : n = 8 := by omega
    subst e
    exact br_t (nI_lt (a := 8) (by decide) (by decide)) (K t ht)
  | succ d ih =>
    intro n t hn ht
    refine br_f (nI_nlt (a := 8) (by omega) (by decide)) ⟨18, px_f19 (n := n) (by omega) ?_ 17 0 t (by omega) ht⟩
    intro t' ht'
    refine ih (n + 1) t' (by omega) ?_
    have e : (n + 1 + 1) * 17 = (n + 1) * 17 + 17 := by omega
    rw [e]
    exact ht'
theorem px_fill {post : St2 → Prop} (K : ∀ t : Nat → Int32, pq_tb t → post (x_length, x_low, x_encoderRange, x_cache, x_pending, x_readPosition, x_decoderRange, x_code, x_decoderStep, x_pulseCounts, x_coefs, x_energies, x_pulses, x_decoded, x_vec, t, x_packet)) : wpX_fillSizes post (x_length, x_low, x_encoderRange, x_cache, x_pending, x_readPosition, x_decoderRange, x_code, x_decoderStep, x_pulseCounts, x_coefs, x_energies, x_pulses, x_decoded, x_vec, (fun _ => 0), x_packet) :=
  nm_e ⟨9, px_f9 K 8 0 _ (by omega) pq_tu_17⟩
end PQN
