/-! the index of a vector -/
section PQI
variable {x_length x_cache x_pending x_readPosition : Int32} {x_low x_encoderRange x_decoderRange x_code x_decoderStep : Int64} {x_pulseCounts x_coefs x_energies x_pulses x_decoded x_vec x_sizes x_packet : Nat → Int32}
theorem px_pulses34 {post : Int32 → Prop} {J : Int32 → Int32 → Int32 → Prop} {x2 v : Int32} {n i k A : Nat} (ht : pq_tb x_sizes) (hn : i + n < 8) (hk : k ≤ 16) (hv : pq_mg v ≤ k)
    (h : J (nI (A + pq_W n k (pq_mg v) + (if v < 0 then pq_V n (k - pq_mg v) else 0))) (nI (k - pq_mg v)) (nI (i + 1))) : ∀ d j, j + d = pq_mg v →
    wX_indexOf_34 post J x2 (nI (i + n + 1)) (nI k) (nI i) v (nI (pq_mg v)) x_length x_low x_encoderRange x_cache x_pending x_readPosition x_decoderRange x_code x_decoderStep x_pulseCounts x_coefs x_energies x_pulses x_decoded x_vec x_sizes x_packet (d + 1) (nI (A + pq_W n k j)) (nI j) := by
  intro d
  induction d with
  | zero =>
    intro j hj
    have e : j = pq_mg v := by omega
    subst e
    refine br_t (nI_le (Nat.le_refl _) (by omega)) (nm_r (pk_sub hv) ?_)
    by_cases c : v < 0
    · rw [if_pos c] at h
      refine br_f (pq_nle0 c) (px_size (n := n) (k := k - pq_mg v) ht (by omega) (by omega) ?_ rfl (nm_r (nI_add _ _) (nm_r (nI_1 i) h)))
      rw [pk_sub (by omega), show i + n + 1 - i = n + 1 by omega, nI_pred]
    · rw [if_neg c] at h
      exact br_t (pq_nlt0 c) (nm_r (nI_1 i) h)
  | succ d ih =>
    intro j hj
    refine br_f (nI_ge (by omega) (by omega)) (px_cwf (m := j) (n := n) (k := k) ht (by omega) (by omega) hk rfl ?_ rfl (nm_r ?_ (nm_r (nI_1 j) (ih (j + 1) (by omega)))))
    · rw [pk_sub (by omega), show i + n + 1 - i = n + 1 by omega]
    · rw [nI_add, Nat.add_assoc]; rfl
theorem px_pulses10 {post : Int32 → Prop} {fr n0 : Nat} (ht : pq_tb x_sizes) (hn : n0 ≤ 8) (hf : fr + n0 ≤ 64) : ∀ d i A k, i + d = n0 → k ≤ 16 → pq_M (fun j => x_pulses (fr + j)) i d = k → post (nI (A + pq_ix (fun j => x_pulses (fr + j)) i d k)) →
    wX_indexOf_10 post (nI fr) (nI n0) x_length x_low x_encoderRange x_cache x_pending x_readPosition x_decoderRange x_code x_decoderStep x_pulseCounts x_coefs x_energies x_pulses x_decoded x_vec x_sizes x_packet (d + 1) (nI A) (nI k) (nI i) := by
  intro d
  induction d with
  | zero =>
    intro i A k hi hk hm h
    exact br_t (nI_le (by omega) (by omega)) h
  | succ d ih =>
    intro i A k hi hk hm h
    have hm2 : pq_mg (x_pulses (fr + i)) + pq_M (fun j => x_pulses (fr + j)) (i + 1) d = k := hm
    have hn0 : n0 = i + d + 1 := by omega
    subst hn0
    refine br_f (nI_ge (by omega) (by omega)) ⟨pk_in (fr + i) 64 (by omega) (nI_add fr i), nm_r (e' := x_pulses (fr + i)) (by rw [nI_add, nI_clamp (by omega)]) (px_mag ⟨pq_mg (x_pulses (fr + i)) + 1, ?_⟩)⟩
    refine px_pulses34 (A := A) (n := d) ht (by omega) hk (by omega) ?_ (pq_mg (x_pulses (fr + i))) 0 (by omega)
    refine ih (i + 1) _ (k - pq_mg (x_pulses (fr + i))) (by omega) (by omega) (by omega) ?_
    have e : A + pq_ix (fun j => x_pulses (fr + j)) i (d + 1) k = A + pq_W d k (pq_mg (x_pulses (fr + i))) + (if x_pulses (fr + i) < 0 then pq_V d (k - pq_mg (x_pulses (fr + i))) else 0) + pq_ix (fun j => x_pulses (fr + j)) (i + 1) d (k - pq_mg (x_pulses (fr + i))) := by
      show A + (pq_W d k (pq_mg (x_pulses (fr + i))) + (if x_pulses (fr + i) < 0 then pq_V d (k - pq_mg (x_pulses (fr + i))) else 0) + pq_ix (fun j => x_pulses (fr + j)) (i + 1) d (k - pq_mg (x_pulses (fr + i)))) = _
      omega
    rw [e] at h
    exact h
theorem px_pulsesix {post : Int32 → Prop} {fr n k : Nat} {p1 p2 p3 : Int32} (ht : pq_tb x_sizes) (hn : n ≤ 8) (hf : fr + n ≤ 64) (hk : k ≤ 16) (hm : pq_M (fun j => x_pulses (fr + j)) 0 n = k) (e1 : p1 = nI fr) (e2 : p2 = nI n) (e3 : p3 = nI k) (h : post (nI (pq_ix (fun j => x_pulses (fr + j)) 0 n k))) : wpX_indexOf post (x_length, x_low, x_encoderRange, x_cache, x_pending, x_readPosition, x_decoderRange, x_code, x_decoderStep, x_pulseCounts, x_coefs, x_energies, x_pulses, x_decoded, x_vec, x_sizes, x_packet) p1 p2 p3 := by
  subst e1 e2 e3
  refine ⟨n + 1, px_pulses10 ht hn hf n 0 0 k (by omega) hk hm ?_⟩
  rw [Nat.zero_add]
  exact h
theorem px_vec34 {post : Int32 → Prop} {J : Int32 → Int32 → Int32 → Prop} {x2 v : Int32} {n i k A : Nat} (ht : pq_tb x_sizes) (hn : i + n < 8) (hk : k ≤ 16) (hv : pq_mg v ≤ k)
    (h : J (nI (A + pq_W n k (pq_mg v) + (if v < 0 then pq_V n (k - pq_mg v) else 0))) (nI (k - pq_mg v)) (nI (i + 1))) : ∀ d j, j + d = pq_mg v →
    wX_indexOf_2_34 post J x2 (nI (i + n + 1)) (nI k) (nI i) v (nI (pq_mg v)) x_length x_low x_encoderRange x_cache x_pending x_readPosition x_decoderRange x_code x_decoderStep x_pulseCounts x_coefs x_energies x_pulses x_decoded x_vec x_sizes x_packet (d + 1) (nI (A + pq_W n k j)) (nI j) := by
  intro d
  induction d with
  | zero =>
    intro j hj
    have e : j = pq_mg v := by omega
    subst e
    refine br_t (nI_le (Nat.le_refl _) (by omega)) (nm_r (pk_sub hv) ?_)
    by_cases c : v < 0
    · rw [if_pos c] at h
      refine br_f (pq_nle0 c) (px_size (n := n) (k := k - pq_mg v) ht (by omega) (by omega) ?_ rfl (nm_r (nI_add _ _) (nm_r (nI_1 i) h)))
      rw [pk_sub (by omega), show i + n + 1 - i = n + 1 by omega, nI_pred]
    · rw [if_neg c] at h
      exact br_t (pq_nlt0 c) (nm_r (nI_1 i) h)
  | succ d ih =>
    intro j hj
    refine br_f (nI_ge (by omega) (by omega)) (px_cwf (m := j) (n := n) (k := k) ht (by omega) (by omega) hk rfl ?_ rfl (nm_r ?_ (nm_r (nI_1 j) (ih (j + 1) (by omega)))))
    · rw [pk_sub (by omega), show i + n + 1 - i = n + 1 by omega]
    · rw [nI_add, Nat.add_assoc]; rfl
theorem px_vec10 {post : Int32 → Prop} {fr n0 : Nat} (ht : pq_tb x_sizes) (hn : n0 ≤ 8) (hf : fr + n0 ≤ 8) : ∀ d i A k, i + d = n0 → k ≤ 16 → pq_M (fun j => x_vec (fr + j)) i d = k → post (nI (A + pq_ix (fun j => x_vec (fr + j)) i d k)) →
    wX_indexOf_2_10 post (nI fr) (nI n0) x_length x_low x_encoderRange x_cache x_pending x_readPosition x_decoderRange x_code x_decoderStep x_pulseCounts x_coefs x_energies x_pulses x_decoded x_vec x_sizes x_packet (d + 1) (nI A) (nI k) (nI i) := by
  intro d
  induction d with
  | zero =>
    intro i A k hi hk hm h
    exact br_t (nI_le (by omega) (by omega)) h
  | succ d ih =>
    intro i A k hi hk hm h
    have hm2 : pq_mg (x_vec (fr + i)) + pq_M (fun j => x_vec (fr + j)) (i + 1) d = k := hm
    have hn0 : n0 = i + d + 1 := by omega
    subst hn0
    refine br_f (nI_ge (by omega) (by omega)) ⟨pk_in (fr + i) 8 (by omega) (nI_add fr i), nm_r (e' := x_vec (fr + i)) (by rw [nI_add, nI_clamp (by omega)]) (px_mag ⟨pq_mg (x_vec (fr + i)) + 1, ?_⟩)⟩
    refine px_vec34 (A := A) (n := d) ht (by omega) hk (by omega) ?_ (pq_mg (x_vec (fr + i))) 0 (by omega)
    refine ih (i + 1) _ (k - pq_mg (x_vec (fr + i))) (by omega) (by omega) (by omega) ?_
    have e : A + pq_ix (fun j => x_vec (fr + j)) i (d + 1) k = A + pq_W d k (pq_mg (x_vec (fr + i))) + (if x_vec (fr + i) < 0 then pq_V d (k - pq_mg (x_vec (fr + i))) else 0) + pq_ix (fun j => x_vec (fr + j)) (i + 1) d (k - pq_mg (x_vec (fr + i))) := by
      show A + (pq_W d k (pq_mg (x_vec (fr + i))) + (if x_vec (fr + i) < 0 then pq_V d (k - pq_mg (x_vec (fr + i))) else 0) + pq_ix (fun j => x_vec (fr + j)) (i + 1) d (k - pq_mg (x_vec (fr + i)))) = _
      omega
    rw [e] at h
    exact h
theorem px_vecix {post : Int32 → Prop} {fr n k : Nat} {p1 p2 p3 : Int32} (ht : pq_tb x_sizes) (hn : n ≤ 8) (hf : fr + n ≤ 8) (hk : k ≤ 16) (hm : pq_M (fun j => x_vec (fr + j)) 0 n = k) (e1 : p1 = nI fr) (e2 : p2 = nI n) (e3 : p3 = nI k) (h : post (nI (pq_ix (fun j => x_vec (fr + j)) 0 n k))) : wpX_indexOf_2 post (x_length, x_low, x_encoderRange, x_cache, x_pending, x_readPosition, x_decoderRange, x_code, x_decoderStep, x_pulseCounts, x_coefs, x_energies, x_pulses, x_decoded, x_vec, x_sizes, x_packet) p1 p2 p3 := by
  subst e1 e2 e3
  refine ⟨n + 1, px_vec10 ht hn hf n 0 0 k (by omega) hk hm ?_⟩
  rw [Nat.zero_add]
  exact h
end PQI
