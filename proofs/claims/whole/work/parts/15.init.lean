/-! the constructors -/
def pq_tu (m : Nat) (t : Nat → Int32) : Prop := ∀ j, j < m → t j = nI (pq_t j)
theorem pq_tu_s {m : Nat} {t : Nat → Int32} (h : pq_tu m t) : pq_tu (m + 1) (upd t m (nI (pq_t m))) := by
  intro j hj
  by_cases e : j = m
  · subst e; exact pk_us
  · rw [pk_un e]; exact h j (by omega)
theorem pq_tu_V {m : Nat} {t : Nat → Int32} (h : pq_tu m t) {n k : Nat} (hm : n * 17 + k < m) : t (n * 17 + k) = nI (pq_V n k) := h _ hm
theorem pq_tu_17 : ∀ j, j < 17 → upd (fun _ => (0 : Int32)) 0 1 j = nI (pq_t j) := by decide +kernel
theorem pq_t0 : ∀ j, j < 17 → nI (pq_t j) = if j = 0 then 1 else 0 := by decide +kernel
section PQN
variable {x_length x_cache x_pending x_readPosition : Int32} {x_low x_encoderRange x_decoderRange x_code x_decoderStep : Int64} {x_pulseCounts x_coefs x_energies x_pulses x_decoded x_vec x_sizes x_packet : Nat → Int32}
variable {y_pktLen y_pending y_rpos : Int32} {y_low y_rng y_cache y_drng y_dcode y_dr : Int64} {y_kb y_inp y_encQ y_encP y_decQ y_decP y_decC y_pkt y_vec y_work y_vt : Nat → Int32}
theorem px_f19 {post : SX → Prop} {J : Int32 → (Nat → Int32) → (Nat → Int32) → (Nat → Int32) → (Nat → Int32) → (Nat → Int32) → (Nat → Int32) → (Nat → Int32) → (Nat → Int32) → Prop} {n : Nat} (hn : n < 8)
    (K : ∀ t : Nat → Int32, pq_tu ((n + 1) * 17 + 17) t → J (nI (n + 1 + 1)) x_pulseCounts x_coefs x_energies x_pulses x_decoded x_vec t x_packet) : ∀ d k (t : Nat → Int32), k + d = 17 → pq_tu ((n + 1) * 17 + k) t →
    wX_fillSizes_19 post J (nI (n + 1)) x_length x_low x_encoderRange x_cache x_pending x_readPosition x_decoderRange x_code x_decoderStep (d + 1) (nI (pq_S (pq_V n) k)) (nI k) x_pulseCounts x_coefs x_energies x_pulses x_decoded x_vec t x_packet := by
  intro d
  induction d with
  | zero =>
    intro k t hk ht
    have e : k = 17 := by omega
    subst e
    exact br_t (nI_lt (a := 16) (by decide) (by decide)) (nm_r (nI_1 (n + 1)) (K t ht))
  | succ d ih =>
    intro k t hk ht
    have e1 : (nI (n + 1) - 1) * 17 + nI k = nI (n * 17 + k) := by rw [nI_pred, pq_i17]
    refine br_f (nI_nlt (a := 16) (by omega) (by decide)) ⟨pk_in (n * 17 + k) 153 (by omega) e1, nm_r (e' := nI (pq_V n k)) (by rw [e1, nI_clamp (by omega), pq_tu_V ht (by omega)]) ⟨pk_in ((n + 1) * 17 + k) 153 (by omega) (pq_i17 _ _), nm_r (e' := upd t ((n + 1) * 17 + k) (nI (pq_t ((n + 1) * 17 + k)))) ?_ (nm_r (nI_add _ _) (nm_r (nI_1 k) (ih (k + 1) _ (by omega) (pq_tu_s ht))))⟩⟩
    rw [pq_i17, nI_clamp (by omega), pq_2i, nI_add, ← pq_row n hn k (by omega)]
    rfl
theorem px_f9 {post : SX → Prop} (K : ∀ t : Nat → Int32, pq_tb t → post (x_length, x_low, x_encoderRange, x_cache, x_pending, x_readPosition, x_decoderRange, x_code, x_decoderStep, x_pulseCounts, x_coefs, x_energies, x_pulses, x_decoded, x_vec, t, x_packet)) : ∀ d n (t : Nat → Int32), n + d = 8 → pq_tu ((n + 1) * 17) t →
    wX_fillSizes_9 post x_length x_low x_encoderRange x_cache x_pending x_readPosition x_decoderRange x_code x_decoderStep (d + 1) (nI (n + 1)) x_pulseCounts x_coefs x_energies x_pulses x_decoded x_vec t x_packet := by
  intro d
  induction d with
  | zero =>
    intro n t hn ht
    have e : n = 8 := by omega
    subst e
    exact br_t (nI_lt (a := 8) (by decide) (by decide)) (K t ht)
  | succ d ih =>
    intro n t hn ht
    refine br_f (nI_nlt (a := 8) (by omega) (by decide)) ⟨18, px_f19 (n := n) (by omega) ?_ 17 0 t (by omega) ht⟩
    intro t' ht'
    refine ih (n + 1) t' (by omega) ?_
    have e : (n + 1 + 1) * 17 = (n + 1) * 17 + 17 := by omega
    rw [e]
    exact ht'
theorem px_fill {post : SX → Prop} (K : ∀ t : Nat → Int32, pq_tb t → post (x_length, x_low, x_encoderRange, x_cache, x_pending, x_readPosition, x_decoderRange, x_code, x_decoderStep, x_pulseCounts, x_coefs, x_energies, x_pulses, x_decoded, x_vec, t, x_packet)) : wpX_fillSizes post (x_length, x_low, x_encoderRange, x_cache, x_pending, x_readPosition, x_decoderRange, x_code, x_decoderStep, x_pulseCounts, x_coefs, x_energies, x_pulses, x_decoded, x_vec, (fun _ => 0), x_packet) :=
  nm_e ⟨9, px_f9 K 8 0 _ (by omega) pq_tu_17⟩
theorem px_init {post : SX → Prop} {k0 k1 k2 k3 : Int32} (K : ∀ t : Nat → Int32, pq_tb t → post (0, 0, 4294967295, 0, 1, 0, 4294967295, 0, 0, upd (upd (upd (upd (fun _ => 0) 0 (pq_cl k0 1 16)) 1 (pq_cl k1 1 16)) 2 (pq_cl k2 1 16)) 3 (pq_cl k3 1 16), (fun _ => 0), (fun _ => 0), (fun _ => 0), (fun _ => 0), (fun _ => 0), t, (fun _ => 0))) : wpX_init post k0 k1 k2 k3 := by
  unfold wpX_init
  exact px_clamp (nm_e (px_clamp (nm_e (px_clamp (nm_e (px_clamp (nm_e (px_fill K))))))))
theorem py_rs5 {post : Int32 → Prop} {n k : Nat} (hn : n < 8) (hk : k ≤ 16) (ht : ∀ i, i < 17 → y_vt (n * 17 + i) = nI (pq_V n i)) (h : post (nI (pq_S (pq_V n) k))) : ∀ d j, j + d = k → wY_rowSum_5 post (nI n) (nI k - 1) y_pktLen y_low y_rng y_cache y_pending y_rpos y_drng y_dcode y_dr y_kb y_inp y_encQ y_encP y_decQ y_decP y_decC y_pkt y_vec y_work y_vt (d + 1) (nI (pq_S (pq_V n) j)) (nI j) := by
  intro d
  induction d with
  | zero =>
    intro j hj
    have e : j = k := by omega
    subst e
    refine br_t ?_ h
    by_cases z : j = 0
    · subst z; decide
    · rw [pq_i1 (by omega)]; exact nI_lt (by omega) (by omega)
  | succ d ih =>
    intro j hj
    refine br_f ?_ (br_f (nI_nlt (a := 16) (by omega) (by decide)) ⟨pk_in (n * 17 + j) 153 (by omega) (pq_i17 _ _), nm_r (e' := nI (pq_S (pq_V n) (j + 1))) ?_ (nm_r (nI_1 j) (ih (j + 1) (by omega)))⟩)
    · rw [pq_i1 (by omega)]; exact nI_nlt (by omega) (by omega)
    · rw [pq_i17, nI_clamp (by omega), ht j (by omega), nI_add]; rfl
theorem py_i160 {post : SY → Prop} {J : Int32 → (Nat → Int32) → (Nat → Int32) → (Nat → Int32) → (Nat → Int32) → (Nat → Int32) → (Nat → Int32) → (Nat → Int32) → (Nat → Int32) → (Nat → Int32) → (Nat → Int32) → (Nat → Int32) → Prop} {n : Nat} (hn : n < 9)
    (K : ∀ t : Nat → Int32, pq_tu (n * 17 + 17) t → J (nI (n + 1)) y_kb y_inp y_encQ y_encP y_decQ y_decP y_decC y_pkt y_vec y_work t) : ∀ d k (t : Nat → Int32), k + d = 17 → pq_tu (n * 17 + k) t →
    wY_init_160 post J (nI n) y_pktLen y_low y_rng y_cache y_pending y_rpos y_drng y_dcode y_dr (d + 1) (nI k) y_kb y_inp y_encQ y_encP y_decQ y_decP y_decC y_pkt y_vec y_work t := by
  intro d
  induction d with
  | zero =>
    intro k t hk ht
    have e : k = 17 := by omega
    subst e
    exact br_t (nI_lt (a := 16) (by decide) (by decide)) (nm_r (nI_1 n) (K t ht))
  | succ d ih =>
    intro k t hk ht
    have IH := ih (k + 1) (upd t (n * 17 + k) (nI (pq_t (n * 17 + k)))) (by omega) (pq_tu_s ht)
    refine br_f (nI_nlt (a := 16) (by omega) (by decide)) ?_
    by_cases z : n = 0
    · subst z
      have e0 : 0 * 17 + k = k := by omega
      rw [e0, pq_t0 k (by omega)] at IH
      refine br_t rfl ?_
      by_cases w : k = 0
      · rw [if_pos w] at IH
        exact br_t (by rw [w]; rfl) ⟨vp_in_nI (by omega) (by decide), nm_r (e' := upd t k 1) (by rw [nI_clamp (by omega)]) (nm_r (nI_1 k) IH)⟩
      · rw [if_neg w] at IH
        exact br_f (nI_ne0 (by omega) (by omega)) ⟨vp_in_nI (by omega) (by decide), nm_r (e' := upd t k 0) (by rw [nI_clamp (by omega)]) (nm_r (nI_1 k) IH)⟩
    · obtain ⟨m, rfl⟩ : ∃ m, n = m + 1 := ⟨n - 1, by omega⟩
      have e1 : (nI (m + 1) - 1) * 17 + nI k = nI (m * 17 + k) := by rw [nI_pred, pq_i17]
      refine br_f (nI_ne0 (by omega) (by omega)) ⟨k + 1, ?_⟩
      rw [show nI (m + 1) - 1 = nI m from nI_pred m] at e1 ⊢
      refine py_rs5 (n := m) (k := k) (by omega) (by omega) (fun i hi => pq_tu_V ht (by omega)) ?_ k 0 (by omega)
      refine ⟨pk_in (m * 17 + k) 153 (by omega) e1, pk_in ((m + 1) * 17 + k) 153 (by omega) (pq_i17 _ _), nm_r (e' := upd t ((m + 1) * 17 + k) (nI (pq_t ((m + 1) * 17 + k)))) ?_ (nm_r (nI_1 k) IH)⟩
      rw [e1, pq_i17, nI_clamp (by omega), nI_clamp (by omega), pq_tu_V ht (by omega), pq_2i, nI_add, ← pq_row m (by omega) k (by omega)]
      rfl
theorem py_i150 {post : SY → Prop} (K : ∀ t : Nat → Int32, pq_tb t → post (y_pktLen, y_low, y_rng, y_cache, y_pending, y_rpos, y_drng, y_dcode, y_dr, y_kb, y_inp, y_encQ, y_encP, y_decQ, y_decP, y_decC, y_pkt, y_vec, y_work, t)) : ∀ d n (t : Nat → Int32), n + d = 9 → pq_tu (n * 17) t →
    wY_init_150 post y_pktLen y_low y_rng y_cache y_pending y_rpos y_drng y_dcode y_dr (d + 1) (nI n) y_kb y_inp y_encQ y_encP y_decQ y_decP y_decC y_pkt y_vec y_work t := by
  intro d
  induction d with
  | zero =>
    intro n t hn ht
    have e : n = 9 := by omega
    subst e
    exact br_t (nI_lt (a := 8) (by decide) (by decide)) (K t ht)
  | succ d ih =>
    intro n t hn ht
    refine br_f (nI_nlt (a := 8) (by omega) (by decide)) ⟨18, py_i160 (n := n) (by omega) ?_ 17 0 t (by omega) ht⟩
    intro t' ht'
    refine ih (n + 1) t' (by omega) ?_
    have e : (n + 1) * 17 = n * 17 + 17 := by omega
    rw [e]
    exact ht'
theorem py_init {post : SY → Prop} {k0 k1 k2 k3 : Int32} (K : ∀ t : Nat → Int32, pq_tb t → post (0, 0, 0, 0, 0, 0, 0, 0, 0, upd (upd (upd (upd (fun _ => 0) 0 (pq_cl k0 1 16)) 1 (pq_cl k1 1 16)) 2 (pq_cl k2 1 16)) 3 (pq_cl k3 1 16), (fun _ => 0), (fun _ => 0), (fun _ => 0), (fun _ => 0), (fun _ => 0), (fun _ => 0), (fun _ => 0), (fun _ => 0), (fun _ => 0), t)) : wpY_init post k0 k1 k2 k3 := by
  unfold wpY_init
  exact py_clamp (nm_e (py_clamp (nm_e (py_clamp (nm_e (py_clamp (nm_e ⟨10, py_i150 K 9 0 (fun _ => 0) (by omega) (fun j h => absurd h (by omega))⟩)))))))
end PQN
