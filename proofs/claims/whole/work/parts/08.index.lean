/-! the index of a vector -/
section PQI
variable {x_length x_cache x_pending x_readPosition : Int32} {x_low x_encoderRange x_decoderRange x_code x_decoderStep : Int64} {x_pulseCounts x_coefs x_energies x_pulses x_decoded x_vec x_sizes x_packet : Nat → Int32}
variable {y_pktLen y_pending y_rpos : Int32} {y_low y_rng y_cache y_drng y_dcode y_dr : Int64} {y_kb y_inp y_encQ y_encP y_decQ y_decP y_decC y_pkt y_vec y_work y_vt : Nat → Int32}
theorem px_pulses34 {post : Int32 → Prop} {J : Int32 → Int32 → Int32 → Prop} {x2 v : Int32} {n i k A : Nat} (ht : pq_tb x_sizes) (hn : i + n < 8) (hk : k ≤ 16) (hv : pq_mg v ≤ k)
    (h : J (nI (A + pq_W n k (pq_mg v) + (if v < 0 then pq_V n (k - pq_mg v) else 0))) (nI (k - pq_mg v)) (nI (i + 1))) : ∀ d j, j + d = pq_mg v →
    wX_indexOf__pulses_34 post J x2 (nI (i + n + 1)) (nI k) (nI i) v (nI (pq_mg v)) x_length x_low x_encoderRange x_cache x_pending x_readPosition x_decoderRange x_code x_decoderStep x_pulseCounts x_coefs x_energies x_pulses x_decoded x_vec x_sizes x_packet (d + 1) (nI (A + pq_W n k j)) (nI j) := by
  intro d
  induction d with
  | zero =>
    intro j hj
    have e : j = pq_mg v := by omega
    subst e
    refine br_t (nI_le (Nat.le_refl _) (by omega)) (nm_r (pk_sub hv) ?_)
    by_cases c : v < 0
    · rw [if_pos c] at h
      refine br_f (pq_nle0 c) (px_size (n := n) (k := k - pq_mg v) ht (by omega) (by omega) ?_ rfl (nm_r (nI_add _ _) (nm_r (nI_1 i) h)))
      rw [pk_sub (by omega), show i + n + 1 - i = n + 1 by omega, nI_pred]
    · rw [if_neg c] at h
      exact br_t (pq_nlt0 c) (nm_r (nI_1 i) h)
  | succ d ih =>
    intro j hj
    refine br_f (nI_ge (by omega) (by omega)) (px_cwf (m := j) (n := n) (k := k) ht (by omega) (by omega) hk rfl ?_ rfl (nm_r ?_ (nm_r (nI_1 j) (ih (j + 1) (by omega)))))
    · rw [pk_sub (by omega), show i + n + 1 - i = n + 1 by omega]
    · rw [nI_add, Nat.add_assoc]; rfl
theorem px_pulses10 {post : Int32 → Prop} {fr n0 : Nat} (ht : pq_tb x_sizes) (hn : n0 ≤ 8) (hf : fr + n0 ≤ 64) : ∀ d i A k, i + d = n0 → k ≤ 16 → pq_M (fun j => x_pulses (fr + j)) i d = k → post (nI (A + pq_ix (fun j => x_pulses (fr + j)) i d k)) →
    wX_indexOf__pulses_10 post (nI fr) (nI n0) x_length x_low x_encoderRange x_cache x_pending x_readPosition x_decoderRange x_code x_decoderStep x_pulseCounts x_coefs x_energies x_pulses x_decoded x_vec x_sizes x_packet (d + 1) (nI A) (nI k) (nI i) := by
  intro d
  induction d with
  | zero =>
    intro i A k hi hk hm h
    exact br_t (nI_le (by omega) (by omega)) h
  | succ d ih =>
    intro i A k hi hk hm h
    have hm2 : pq_mg (x_pulses (fr + i)) + pq_M (fun j => x_pulses (fr + j)) (i + 1) d = k := hm
    have hn0 : n0 = i + d + 1 := by omega
    subst hn0
    refine br_f (nI_ge (by omega) (by omega)) ⟨pk_in (fr + i) 64 (by omega) (nI_add fr i), nm_r (e' := x_pulses (fr + i)) (by rw [nI_add, nI_clamp (by omega)]) (px_mag ⟨pq_mg (x_pulses (fr + i)) + 1, ?_⟩)⟩
    refine px_pulses34 (A := A) (n := d) ht (by omega) hk (by omega) ?_ (pq_mg (x_pulses (fr + i))) 0 (by omega)
    refine ih (i + 1) _ (k - pq_mg (x_pulses (fr + i))) (by omega) (by omega) (by omega) ?_
    have e : A + pq_ix (fun j => x_pulses (fr + j)) i (d + 1) k = A + pq_W d k (pq_mg (x_pulses (fr + i))) + (if x_pulses (fr + i) < 0 then pq_V d (k - pq_mg (x_pulses (fr + i))) else 0) + pq_ix (fun j => x_pulses (fr + j)) (i + 1) d (k - pq_mg (x_pulses (fr + i))) := by
      show A + (pq_W d k (pq_mg (x_pulses (fr + i))) + (if x_pulses (fr + i) < 0 then pq_V d (k - pq_mg (x_pulses (fr + i))) else 0) + pq_ix (fun j => x_pulses (fr + j)) (i + 1) d (k - pq_mg (x_pulses (fr + i)))) = _
      omega
    rw [e] at h
    exact h
theorem px_pulsesix {post : Int32 → Prop} {fr n k : Nat} {p1 p2 p3 : Int32} (ht : pq_tb x_sizes) (hn : n ≤ 8) (hf : fr + n ≤ 64) (hk : k ≤ 16) (hm : pq_M (fun j => x_pulses (fr + j)) 0 n = k) (e1 : p1 = nI fr) (e2 : p2 = nI n) (e3 : p3 = nI k) (h : post (nI (pq_ix (fun j => x_pulses (fr + j)) 0 n k))) : wpX_indexOf__pulses post (x_length, x_low, x_encoderRange, x_cache, x_pending, x_readPosition, x_decoderRange, x_code, x_decoderStep, x_pulseCounts, x_coefs, x_energies, x_pulses, x_decoded, x_vec, x_sizes, x_packet) p1 p2 p3 := by
  subst e1 e2 e3
  refine ⟨n + 1, px_pulses10 ht hn hf n 0 0 k (by omega) hk hm ?_⟩
  rw [Nat.zero_add]
  exact h
theorem px_vec34 {post : Int32 → Prop} {J : Int32 → Int32 → Int32 → Prop} {x2 v : Int32} {n i k A : Nat} (ht : pq_tb x_sizes) (hn : i + n < 8) (hk : k ≤ 16) (hv : pq_mg v ≤ k)
    (h : J (nI (A + pq_W n k (pq_mg v) + (if v < 0 then pq_V n (k - pq_mg v) else 0))) (nI (k - pq_mg v)) (nI (i + 1))) : ∀ d j, j + d = pq_mg v →
    wX_indexOf__vec_34 post J x2 (nI (i + n + 1)) (nI k) (nI i) v (nI (pq_mg v)) x_length x_low x_encoderRange x_cache x_pending x_readPosition x_decoderRange x_code x_decoderStep x_pulseCounts x_coefs x_energies x_pulses x_decoded x_vec x_sizes x_packet (d + 1) (nI (A + pq_W n k j)) (nI j) := by
  intro d
  induction d with
  | zero =>
    intro j hj
    have e : j = pq_mg v := by omega
    subst e
    refine br_t (nI_le (Nat.le_refl _) (by omega)) (nm_r (pk_sub hv) ?_)
    by_cases c : v < 0
    · rw [if_pos c] at h
      refine br_f (pq_nle0 c) (px_size (n := n) (k := k - pq_mg v) ht (by omega) (by omega) ?_ rfl (nm_r (nI_add _ _) (nm_r (nI_1 i) h)))
      rw [pk_sub (by omega), show i + n + 1 - i = n + 1 by omega, nI_pred]
    · rw [if_neg c] at h
      exact br_t (pq_nlt0 c) (nm_r (nI_1 i) h)
  | succ d ih =>
    intro j hj
    refine br_f (nI_ge (by omega) (by omega)) (px_cwf (m := j) (n := n) (k := k) ht (by omega) (by omega) hk rfl ?_ rfl (nm_r ?_ (nm_r (nI_1 j) (ih (j + 1) (by omega)))))
    · rw [pk_sub (by omega), show i + n + 1 - i = n + 1 by omega]
    · rw [nI_add, Nat.add_assoc]; rfl
theorem px_vec10 {post : Int32 → Prop} {fr n0 : Nat} (ht : pq_tb x_sizes) (hn : n0 ≤ 8) (hf : fr + n0 ≤ 8) : ∀ d i A k, i + d = n0 → k ≤ 16 → pq_M (fun j => x_vec (fr + j)) i d = k → post (nI (A + pq_ix (fun j => x_vec (fr + j)) i d k)) →
    wX_indexOf__vec_10 post (nI fr) (nI n0) x_length x_low x_encoderRange x_cache x_pending x_readPosition x_decoderRange x_code x_decoderStep x_pulseCounts x_coefs x_energies x_pulses x_decoded x_vec x_sizes x_packet (d + 1) (nI A) (nI k) (nI i) := by
  intro d
  induction d with
  | zero =>
    intro i A k hi hk hm h
    exact br_t (nI_le (by omega) (by omega)) h
  | succ d ih =>
    intro i A k hi hk hm h
    have hm2 : pq_mg (x_vec (fr + i)) + pq_M (fun j => x_vec (fr + j)) (i + 1) d = k := hm
    have hn0 : n0 = i + d + 1 := by omega
    subst hn0
    refine br_f (nI_ge (by omega) (by omega)) ⟨pk_in (fr + i) 8 (by omega) (nI_add fr i), nm_r (e' := x_vec (fr + i)) (by rw [nI_add, nI_clamp (by omega)]) (px_mag ⟨pq_mg (x_vec (fr + i)) + 1, ?_⟩)⟩
    refine px_vec34 (A := A) (n := d) ht (by omega) hk (by omega) ?_ (pq_mg (x_vec (fr + i))) 0 (by omega)
    refine ih (i + 1) _ (k - pq_mg (x_vec (fr + i))) (by omega) (by omega) (by omega) ?_
    have e : A + pq_ix (fun j => x_vec (fr + j)) i (d + 1) k = A + pq_W d k (pq_mg (x_vec (fr + i))) + (if x_vec (fr + i) < 0 then pq_V d (k - pq_mg (x_vec (fr + i))) else 0) + pq_ix (fun j => x_vec (fr + j)) (i + 1) d (k - pq_mg (x_vec (fr + i))) := by
      show A + (pq_W d k (pq_mg (x_vec (fr + i))) + (if x_vec (fr + i) < 0 then pq_V d (k - pq_mg (x_vec (fr + i))) else 0) + pq_ix (fun j => x_vec (fr + j)) (i + 1) d (k - pq_mg (x_vec (fr + i)))) = _
      omega
    rw [e] at h
    exact h
theorem px_vecix {post : Int32 → Prop} {fr n k : Nat} {p1 p2 p3 : Int32} (ht : pq_tb x_sizes) (hn : n ≤ 8) (hf : fr + n ≤ 8) (hk : k ≤ 16) (hm : pq_M (fun j => x_vec (fr + j)) 0 n = k) (e1 : p1 = nI fr) (e2 : p2 = nI n) (e3 : p3 = nI k) (h : post (nI (pq_ix (fun j => x_vec (fr + j)) 0 n k))) : wpX_indexOf__vec post (x_length, x_low, x_encoderRange, x_cache, x_pending, x_readPosition, x_decoderRange, x_code, x_decoderStep, x_pulseCounts, x_coefs, x_energies, x_pulses, x_decoded, x_vec, x_sizes, x_packet) p1 p2 p3 := by
  subst e1 e2 e3
  refine ⟨n + 1, px_vec10 ht hn hf n 0 0 k (by omega) hk hm ?_⟩
  rw [Nat.zero_add]
  exact h
theorem py_97 {post : Int32 → Prop} {J : Int32 → Int32 → Int32 → Prop} {v : Int32} {n i k A : Nat} (ht : pq_tb y_vt) (hn : i + n < 8) (hk : k ≤ 16) (hv : pq_mg v ≤ k)
    (h : J (nI (A + (if v < 0 then pq_V n (k - pq_mg v) else 0))) (nI (k - pq_mg v)) (nI (i + 1))) :
    wY_indexOf_97 post J (nI (i + n + 1)) (nI A) (nI k) (nI i) v (nI (pq_mg v)) y_pktLen y_low y_rng y_cache y_pending y_rpos y_drng y_dcode y_dr y_kb y_inp y_encQ y_encP y_decQ y_decP y_decC y_pkt y_vec y_work y_vt := by
  by_cases c : v < 0
  · rw [if_pos c] at h
    refine br_f (pq_nle0 c) (py_vv (n := n) (k := k - pq_mg v) ht (by omega) (by omega) ?_ (pk_sub hv) (nm_r (nI_add _ _) (nm_r (pk_sub hv) (nm_r (nI_1 i) h))))
    rw [pk_sub (by omega), show i + n + 1 - i = n + 1 by omega, nI_pred]
  · rw [if_neg c] at h
    exact br_t (pq_nlt0 c) (nm_r (pk_sub hv) (nm_r (nI_1 i) h))
theorem py_48 {post : Int32 → Prop} {J : Int32 → Int32 → Int32 → Prop} {v : Int32} {n i k A : Nat} (ht : pq_tb y_vt) (hn : i + n < 8) (hk : k ≤ 16) (hv : pq_mg v ≤ k)
    (h : J (nI (A + pq_W n k (pq_mg v) + (if v < 0 then pq_V n (k - pq_mg v) else 0))) (nI (k - pq_mg v)) (nI (i + 1))) : ∀ d j, j + d = pq_mg v →
    wY_indexOf_48 post J (nI (i + n + 1)) (nI k) (nI i) v (nI (pq_mg v)) y_pktLen y_low y_rng y_cache y_pending y_rpos y_drng y_dcode y_dr y_kb y_inp y_encQ y_encP y_decQ y_decP y_decC y_pkt y_vec y_work y_vt (d + 1) (nI (A + pq_W n k j)) (nI j) := by
  intro d
  induction d with
  | zero =>
    intro j hj
    have e : j = pq_mg v := by omega
    subst e
    exact br_t (nI_le (Nat.le_refl _) (by omega)) (py_97 ht hn hk hv h)
  | succ d ih =>
    intro j hj
    have e1 : nI (i + n + 1) - nI i - 1 = nI n := by
      rw [pk_sub (by omega), show i + n + 1 - i = n + 1 by omega, nI_pred]
    refine br_f (nI_ge (by omega) (by omega)) (br_f (nI_nlt (a := 16) (by omega) (by decide)) ?_)
    by_cases z : j = 0
    · refine br_t (by rw [z]; rfl) (py_vv (n := n) (k := k - j) ht (by omega) (by omega) e1 (pk_sub (by omega)) (nm_r ?_ (nm_r (nI_1 j) (ih (j + 1) (by omega)))))
      rw [show (1 : Int32) = nI 1 from rfl, pk_mul, nI_add, Nat.add_assoc]
      show _ = nI (A + (pq_W n k j + (if j = 0 then 1 else 2) * pq_V n (k - j)))
      rw [if_pos z]
    · refine br_f (nI_ne0 (by omega) (by omega)) (py_vv (n := n) (k := k - j) ht (by omega) (by omega) e1 (pk_sub (by omega)) (nm_r ?_ (nm_r (nI_1 j) (ih (j + 1) (by omega)))))
      rw [pq_2i, nI_add, Nat.add_assoc]
      show _ = nI (A + (pq_W n k j + (if j = 0 then 1 else 2) * pq_V n (k - j)))
      rw [if_neg z]
theorem py_8 {post : Int32 → Prop} {n0 : Nat} (ht : pq_tb y_vt) (hn : n0 ≤ 8) : ∀ d i A k, i + d = n0 → k ≤ 16 → pq_M y_work i d = k → post (nI (A + pq_ix y_work i d k)) →
    wY_indexOf_8 post (nI n0) y_pktLen y_low y_rng y_cache y_pending y_rpos y_drng y_dcode y_dr y_kb y_inp y_encQ y_encP y_decQ y_decP y_decC y_pkt y_vec y_work y_vt (d + 1) (nI A) (nI k) (nI i) := by
  intro d
  induction d with
  | zero =>
    intro i A k hi hk hm h
    exact br_t (nI_le (by omega) (by omega)) h
  | succ d ih =>
    intro i A k hi hk hm h
    have hm2 : pq_mg (y_work i) + pq_M y_work (i + 1) d = k := hm
    have hn0 : n0 = i + d + 1 := by omega
    subst hn0
    have e : A + pq_ix y_work i (d + 1) k = A + pq_W d k (pq_mg (y_work i)) + (if y_work i < 0 then pq_V d (k - pq_mg (y_work i)) else 0) + pq_ix y_work (i + 1) d (k - pq_mg (y_work i)) := by
      show A + (pq_W d k (pq_mg (y_work i)) + (if y_work i < 0 then pq_V d (k - pq_mg (y_work i)) else 0) + pq_ix y_work (i + 1) d (k - pq_mg (y_work i))) = _
      omega
    rw [e] at h
    have K := py_48 (post := post) (J := wY_indexOf_8 post (nI (i + d + 1)) y_pktLen y_low y_rng y_cache y_pending y_rpos y_drng y_dcode y_dr y_kb y_inp y_encQ y_encP y_decQ y_decP y_decC y_pkt y_vec y_work y_vt (d + 1)) (v := y_work i) (n := d) (i := i) (k := k) (A := A) (y_pktLen := y_pktLen) (y_low := y_low) (y_rng := y_rng) (y_cache := y_cache) (y_pending := y_pending) (y_rpos := y_rpos) (y_drng := y_drng) (y_dcode := y_dcode) (y_dr := y_dr) (y_kb := y_kb) (y_inp := y_inp) (y_encQ := y_encQ) (y_encP := y_encP) (y_decQ := y_decQ) (y_decP := y_decP) (y_decC := y_decC) (y_pkt := y_pkt) (y_vec := y_vec) (y_work := y_work) (y_vt := y_vt) ht (by omega) hk (by omega) (ih (i + 1) _ (k - pq_mg (y_work i)) (by omega) (by omega) (by omega) h) (pq_mg (y_work i)) 0 (by omega)
    refine br_f (nI_ge (by omega) (by omega)) (br_f (nI_ge (b := 8) (by omega) (by decide)) ⟨vp_in_nI (by omega) (by decide), nm_r (e' := y_work i) (by rw [nI_clamp (by omega)]) ?_⟩)
    by_cases c : y_work i < 0
    · exact br_f (pq_nle0 c) (nm_r (pq_mg_n c) ⟨pq_mg (y_work i) + 1, K⟩)
    · refine br_t (pq_nlt0 c) ⟨pq_mg (y_work i) + 1, ?_⟩
      have e2 := pq_mg_p c
      have K2 : ∀ z, z = nI (pq_mg (y_work i)) → wY_indexOf_48 post (wY_indexOf_8 post (nI (i + d + 1)) y_pktLen y_low y_rng y_cache y_pending y_rpos y_drng y_dcode y_dr y_kb y_inp y_encQ y_encP y_decQ y_decP y_decC y_pkt y_vec y_work y_vt (d + 1)) (nI (i + d + 1)) (nI k) (nI i) (y_work i) z y_pktLen y_low y_rng y_cache y_pending y_rpos y_drng y_dcode y_dr y_kb y_inp y_encQ y_encP y_decQ y_decP y_decC y_pkt y_vec y_work y_vt (pq_mg (y_work i) + 1) (nI A) 0 := by
        intro z hz
        rw [hz]
        exact K
      exact K2 _ e2
theorem py_ix {post : Int32 → Prop} {n k : Nat} {p1 p2 : Int32} (ht : pq_tb y_vt) (hn : n ≤ 8) (hk : k ≤ 16) (hm : pq_M y_work 0 n = k) (e1 : p1 = nI n) (e2 : p2 = nI k) (h : post (nI (pq_ix y_work 0 n k))) : wpY_indexOf post (y_pktLen, y_low, y_rng, y_cache, y_pending, y_rpos, y_drng, y_dcode, y_dr, y_kb, y_inp, y_encQ, y_encP, y_decQ, y_decP, y_decC, y_pkt, y_vec, y_work, y_vt) p1 p2 := by
  subst e1 e2
  refine ⟨n + 1, py_8 ht hn n 0 0 k (by omega) hk hm ?_⟩
  rw [Nat.zero_add]
  exact h
end PQI
