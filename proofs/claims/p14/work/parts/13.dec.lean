/-! a frame, decoded -/
def pq_qf (dq pk : Nat → Int32) (le : Nat) (pc : Nat → Int32) (b : Nat) : Int32 := pq_cl ((3 * dq b + 2) / 4 + pq_rs (pq_ds (pq_db pk le pc b))) 0 33
def pq_qn (dq pk : Nat → Int32) (le : Nat) (pc : Nat → Int32) (b : Nat) : Nat := (pq_qf dq pk le pc b).toNatClampNeg
theorem pq_qf_s (dq pk : Nat → Int32) (le : Nat) (pc : Nat → Int32) (b : Nat) : pq_qf dq pk le pc b = nI (pq_qn dq pk le pc b) ∧ pq_qn dq pk le pc b ≤ 33 := by
  obtain ⟨q, h1, h2⟩ := pq_cl_s ((3 * dq b + 2) / 4 + pq_rs (pq_ds (pq_db pk le pc b)))
  have e : pq_qf dq pk le pc b = nI q := h2
  unfold pq_qn
  rw [e, nI_clamp (by omega)]
  exact ⟨rfl, h1⟩
theorem pq_M32 {q mm sq : Nat} (h1 : 1 ≤ q) (h2 : q ≤ 33) (h3 : mm ≤ sq) : 2 ^ (q - 1) * mm / sq ≤ 4294967296 ∧ 2 ^ (q - 1) ≤ 4294967296 := by
  have p : 2 ^ (q - 1) ≤ 2 ^ 32 := Nat.pow_le_pow_right (by decide) (by omega)
  have m : 2 ^ (q - 1) * mm ≤ sq * 2 ^ (q - 1) := by rw [Nat.mul_comm sq]; exact Nat.mul_le_mul_left _ h3
  have d : 2 ^ (q - 1) * mm / sq ≤ 2 ^ (q - 1) := Nat.div_le_of_le_mul m
  exact ⟨Nat.le_trans d p, p⟩
theorem pq_pw {y : Int32} {q : Nat} (h1 : 1 ≤ q) (h2 : q ≤ 33) : ((1 : Int64) <<< ((nI q - 1).toInt64 &&& 63)) * y.toInt64 * y.toInt64 = lN (2 ^ (q - 1) * (pq_mg y * pq_mg y)) := by
  rw [pq_i1 h1, Int64.mul_assoc, pq_mgL]
  show lN 1 <<< ((nI (q - 1)).toInt64 &&& 63) * _ = _
  rw [wb_shl 1 (by omega), Nat.one_mul, lN_mul]
theorem pq_pwb {q m : Nat} (h1 : 1 ≤ q) (h2 : q ≤ 33) (hm : m ≤ 16) : 2 ^ (q - 1) * (m * m) < 2 ^ 63 := by
  have p : 2 ^ (q - 1) ≤ 2 ^ 32 := Nat.pow_le_pow_right (by decide) (by omega)
  have a : m * m ≤ 16 * 16 := Nat.mul_le_mul hm hm
  have b : 2 ^ (q - 1) * (m * m) ≤ 2 ^ 32 * (16 * 16) := Nat.mul_le_mul p a
  omega
theorem pq_mg0 {y : Int32} (h : pq_mg y = 0) : y = 0 := by
  have c : ¬ y < 0 := fun z => by have := pq_mg_1 z; omega
  rw [pq_mg_p c, h]
  rfl
theorem pq_nmg0 {y : Int32} (h : ¬ y = 0) : 1 ≤ pq_mg y := by
  by_cases z : pq_mg y = 0
  · exact absurd (pq_mg0 z) h
  · omega
theorem pq_sc_0 {y : Int32} {q sq : Nat} (h : q = 0 ∨ y = 0) : pq_sc y q sq = 0 := if_pos h
theorem pq_sc_n {y : Int32} {q sq : Nat} (h1 : 1 ≤ q) (h2 : ¬ y = 0) (h3 : y < 0) : pq_sc y q sq = -nI (pq_rt (2 ^ (q - 1) * (pq_mg y * pq_mg y) / sq)) := by
  unfold pq_sc
  rw [if_neg (by intro z; cases z with | inl a => omega | inr a => exact h2 a), if_pos h3]
theorem pq_sc_p {y : Int32} {q sq : Nat} (h1 : 1 ≤ q) (h2 : ¬ y = 0) (h3 : ¬ y < 0) : pq_sc y q sq = nI (pq_rt (2 ^ (q - 1) * (pq_mg y * pq_mg y) / sq)) := by
  unfold pq_sc
  rw [if_neg (by intro z; cases z with | inl a => omega | inr a => exact h2 a), if_neg h3]
theorem pq_clN {X V : Nat} (h1 : 1 ≤ V) (hX : X < 2 ^ 31) (hV : V < 2 ^ 31) : pq_cl (nI X) 0 (nI (V - 1)) = nI (if V - 1 < X then V - 1 else X) := by
  unfold pq_cl
  rw [if_neg (nI_pos hX)]
  by_cases c : V - 1 < X
  · rw [if_pos c, if_pos (nI_lt c hX)]
  · rw [if_neg c, if_neg (nI_nlt (by omega) (by omega))]
theorem pq_hlo {h ap l V : Nat} (h1 : h ≤ 65535) (h2 : ap ≤ 8) (h3 : l < 2 ^ ap) : h * 2 ^ ap + l < 2 ^ 26 ∧ h * 2 ^ ap < 2 ^ 26 := by
  have p : 2 ^ ap ≤ 2 ^ 8 := Nat.pow_le_pow_right (by decide) h2
  have m : h * 2 ^ ap ≤ 65535 * 2 ^ 8 := Nat.mul_le_mul h1 p
  omega
theorem pq_shlV {a ap : Nat} (h : a * 2 ^ ap < 2 ^ 26) (hp : ap ≤ 8) : nI a <<< (nI ap &&& 31) = nI (a * 2 ^ ap) := pk_shlN _ _ (s_l ap (by omega)) (by omega)
section PQX
variable {x_length x_cache x_pending x_readPosition : Int32} {x_low x_encoderRange x_decoderRange x_code x_decoderStep : Int64} {x_pulseCounts x_coefs x_energies x_pulses x_decoded x_vec x_sizes x_packet : Nat → Int32}
variable {b : Nat} {pk : Nat → Int32} {le : Nat}
theorem px_67 {post : St2 → Prop} {k r : Nat} (hb : b < 4) (ht : pq_tb x_sizes) (hk : k ≤ 16) (hr : r < pq_V 8 k)
    (K : ∀ p : Nat → Int32, (∀ t, t < 8 → p (32 + 8 * b + t) = pq_y 8 k r t) → (∀ j, (j < 32 + 8 * b ∨ 32 + 8 * b + 8 ≤ j) → p j = x_pulses j) → post (x_length, x_low, x_encoderRange, x_cache, x_pending, x_readPosition, x_decoderRange, x_code, x_decoderStep, x_pulseCounts, x_coefs, x_energies, p, x_decoded, x_vec, x_sizes, x_packet)) : wX_decodePulses_67 post (nI b) (nI k) (nI r) x_length x_low x_encoderRange x_cache x_pending x_readPosition x_decoderRange x_code x_decoderStep x_pulseCounts x_coefs x_energies x_pulses x_decoded x_vec x_sizes x_packet := by
  unfold wX_decodePulses_67
  refine px_pulsesun (fr := 32 + 8 * b) (n := 8) (k := k) (r := r) ht (by omega) (by omega) hk hr ?_ rfl rfl rfl K
  rw [pq_b8, show (32 : Int32) = nI 32 from rfl, nI_add]
theorem px_dp {post : St2 → Prop} {B : Nat} {d : pq_D} (hb : b < 4) (hB : pq_B pk) (hl : le ≤ 64) (ht : pq_tb x_sizes) (hk : pq_HK x_pulseCounts) (hD : pq_DI B d) (hBB : B + 4 < 2 ^ 20)
    (K : ∀ (ds : Int64) (p : Nat → Int32), (∀ t, t < 8 → p (32 + 8 * b + t) = pq_y 8 (pq_k x_pulseCounts b) (pq_dp pk le d (pq_k x_pulseCounts b)).1 t) → (∀ j, (j < 32 + 8 * b ∨ 32 + 8 * b + 8 ≤ j) → p j = x_pulses j) →
      post (nI le, x_low, x_encoderRange, x_cache, x_pending, nI (((pq_dp pk le d (pq_k x_pulseCounts b)).2)).1, lN (((pq_dp pk le d (pq_k x_pulseCounts b)).2)).2.1, lN (((pq_dp pk le d (pq_k x_pulseCounts b)).2)).2.2, ds, x_pulseCounts, x_coefs, x_energies, p, x_decoded, x_vec, x_sizes, pk)) : wpX_decodePulses post (nI le, x_low, x_encoderRange, x_cache, x_pending, nI d.1, lN d.2.1, lN d.2.2, x_decoderStep, x_pulseCounts, x_coefs, x_energies, x_pulses, x_decoded, x_vec, x_sizes, pk) (nI b) := by
  have ⟨k1, k2, k3⟩ := pq_k_s hk hb
  have hV := pq_Vle (n := 8) (k := pq_k x_pulseCounts b) (by omega) k2
  have hp := pq_Vpos (pq_k x_pulseCounts b) (by omega)
  have ⟨hx, _⟩ := pq_dp_s pk le hD k2
  generalize pq_k x_pulseCounts b = k at *
  refine ⟨vp_in_nI hb (by decide), nm_r (e' := nI k) (by rw [nI_clamp (by omega)]; exact k3) (px_size (n := 8) (k := k) ht (by omega) k2 rfl rfl (px_low k2 rfl ?_))⟩
  unfold pq_dp at K hx
  by_cases c : pq_V 8 k ≤ 65536
  · rw [if_pos c] at K hx
    have a0 : pq_ap k = 0 := if_pos c
    rw [a0]
    have et : (nI (pq_V 8 k) - 1) >>> (nI 0 &&& 31) + 1 = nI (pq_V 8 k) := by
      rw [pq_i1 hp, pq_shV (by omega) (by omega), nI_1, Nat.pow_zero, Nat.div_one, Nat.sub_add_cancel hp]
    refine px_du hB hl hD (by omega) hp c et (br_t (by decide) (px_67 hb ht k2 hx ?_))
    intro p g1 g2
    exact K _ p g1 g2
  · rw [if_neg c] at K hx
    have ⟨a1, a2, a3, a4⟩ := pq_ap_s k (by omega) (by omega)
    have ⟨p1, p2⟩ := pq_ap_p _ a2
    have et : (nI (pq_V 8 k) - 1) >>> (nI (pq_ap k) &&& 31) + 1 = nI ((pq_V 8 k - 1) / 2 ^ pq_ap k + 1) := by
      rw [pq_i1 hp, pq_shV (by omega) a2, nI_1]
    have hv := pq_dv_lt (d := d) (total := (pq_V 8 k - 1) / 2 ^ pq_ap k + 1) (Nat.succ_pos _)
    have D1 := pq_dc_s pk le (total := (pq_V 8 k - 1) / 2 ^ pq_ap k + 1) (start := pq_dv d ((pq_V 8 k - 1) / 2 ^ pq_ap k + 1)) hD (Nat.succ_pos _) a3 (Nat.le_refl 1) (Nat.succ_pos _)
    have hv2 := pq_dv_lt (d := pq_dc pk le d ((pq_V 8 k - 1) / 2 ^ pq_ap k + 1) (pq_dv d ((pq_V 8 k - 1) / 2 ^ pq_ap k + 1)) 1) (total := 2 ^ pq_ap k) p1
    have ⟨l1, l2⟩ := pq_hlo (V := 0) (Nat.le_of_lt_succ (Nat.lt_of_lt_of_le hv a3)) a2 hv2
    refine px_du (total := (pq_V 8 k - 1) / 2 ^ pq_ap k + 1) hB hl hD (by omega) (Nat.succ_pos _) a3 et (br_f (nI_nle (by omega) (by omega)) (px_du hB hl D1 (by omega) p1 (Nat.le_trans p2 (by decide)) (pq_p2 _ a2) (px_clamp ?_)))
    rw [pq_shlV l2 a2, nI_add, pq_i1 hp, pq_clN hp (by omega) (by omega)]
    refine px_67 hb ht k2 hx ?_
    intro p g1 g2
    exact K _ p g1 g2
theorem px_sp {post : Int32 → Prop} {y : Int32} {q sq : Nat} (hq : q ≤ 33) (hy : pq_mg y ≤ 16) (hs : pq_mg y * pq_mg y ≤ sq) (hs2 : sq < 2 ^ 31) (h : post (pq_sc y q sq)) : wpX_scaledPulse post () y (nI q) (lN sq) := by
  by_cases z : q = 0
  · rw [pq_sc_0 (Or.inl z)] at h
    exact br_t (by rw [z]; rfl) h
  · refine br_f (nI_ne0 (by omega) (by omega)) ?_
    by_cases w : y = 0
    · rw [pq_sc_0 (Or.inr w)] at h
      exact br_t w h
    · have m1 := pq_nmg0 w
      have m2 : 1 ≤ pq_mg y * pq_mg y := Nat.mul_pos m1 m1
      have ⟨M1, M2⟩ := pq_M32 (q := q) (by omega) hq hs
      refine br_f w (nm_r (pq_pw (by omega) hq) (px_quo rfl rfl (pq_pwb (by omega) hq hy) (by omega) (by omega) (px_sq rfl (by omega) ?_)))
      by_cases c : y < 0
      · rw [pq_sc_n (by omega) w c] at h
        exact br_f (pq_nle0 c) h
      · rw [pq_sc_p (by omega) w c] at h
        exact br_t (pq_nlt0 c) h
theorem px_52 {post : St2 → Prop} {Y : Nat → Int32} {q sq : Nat} (hb : b < 4) (hq : q ≤ 33) (hY : ∀ t, t < 8 → x_pulses (32 + 8 * b + t) = Y t) (hm : ∀ t, t < 8 → pq_mg (Y t) ≤ 16) (hs : ∀ t, t < 8 → pq_mg (Y t) * pq_mg (Y t) ≤ sq) (hs2 : sq < 2 ^ 31)
    (K : ∀ de : Nat → Int32, (∀ j, j < 8 → de (8 * b + j) = pq_sc (Y j) q sq) → (∀ i, (i < 8 * b ∨ 8 * b + 8 ≤ i) → de i = x_decoded i) → post (x_length, x_low, x_encoderRange, x_cache, x_pending, x_readPosition, x_decoderRange, x_code, x_decoderStep, x_pulseCounts, x_coefs, x_energies, x_pulses, de, x_vec, x_sizes, x_packet)) : ∀ d j (de : Nat → Int32), j + d = 8 → (∀ t, t < j → de (8 * b + t) = pq_sc (Y t) q sq) → (∀ i, (i < 8 * b ∨ 8 * b + 8 ≤ i) → de i = x_decoded i) →
    wX_scaleBand_52 post (nI q) (nI (8 * b)) (lN sq) x_length x_low x_encoderRange x_cache x_pending x_readPosition x_decoderRange x_code x_decoderStep (d + 1) (nI j) x_pulseCounts x_coefs x_energies x_pulses de x_vec x_sizes x_packet := by
  intro d
  induction d with
  | zero =>
    intro j de hj h1 h2
    have e : j = 8 := by omega
    subst e
    exact br_t (nI_le (a := 8) (Nat.le_refl _) (by decide)) (K de h1 h2)
  | succ d ih =>
    intro j de hj h1 h2
    have e1 : 32 + nI (8 * b) + nI j = nI (32 + 8 * b + j) := by rw [show (32 : Int32) = nI 32 from rfl, nI_add, nI_add]
    refine br_f (nI_ge (b := 8) (by omega) (by decide)) ⟨pk_in (32 + 8 * b + j) 64 (by omega) e1, nm_r (e' := Y j) (by rw [e1, nI_clamp (by omega), hY j (by omega)]) (px_sp hq (hm j (by omega)) (hs j (by omega)) hs2 ⟨pk_in (8 * b + j) 32 (by omega) (nI_add _ _), nm_r (e' := upd de (8 * b + j) (pq_sc (Y j) q sq)) (by rw [nI_add, nI_clamp (by omega)]) (nm_r (nI_1 j) (ih (j + 1) _ (by omega) ?_ ?_))⟩)⟩
    · intro t ht
      by_cases z : t = j
      · subst z; exact pk_us
      · rw [pk_un (by omega)]; exact h1 t (by omega)
    · intro i hi
      rw [pk_un (by omega)]
      exact h2 i hi
theorem px_11 {post : St2 → Prop} {Y : Nat → Int32} {q : Nat} (hb : b < 4) (hq : q ≤ 33) (hY : ∀ t, t < 8 → x_pulses (32 + 8 * b + t) = Y t) (hm : ∀ t, t < 8 → pq_mg (Y t) ≤ 16)
    (K : ∀ de : Nat → Int32, (∀ j, j < 8 → de (8 * b + j) = pq_sc (Y j) q (pq_S (fun j => pq_mg (Y j) * pq_mg (Y j)) 8)) → (∀ i, (i < 8 * b ∨ 8 * b + 8 ≤ i) → de i = x_decoded i) → post (x_length, x_low, x_encoderRange, x_cache, x_pending, x_readPosition, x_decoderRange, x_code, x_decoderStep, x_pulseCounts, x_coefs, x_energies, x_pulses, de, x_vec, x_sizes, x_packet)) : ∀ d j, j + d = 8 →
    wX_scaleBand_11 post (nI q) (nI (8 * b)) x_length x_low x_encoderRange x_cache x_pending x_readPosition x_decoderRange x_code x_decoderStep x_pulseCounts x_coefs x_energies x_pulses x_decoded x_vec x_sizes x_packet (d + 1) (lN (pq_S (fun j => pq_mg (Y j) * pq_mg (Y j)) j)) (nI j) := by
  have hS : pq_S (fun j => pq_mg (Y j) * pq_mg (Y j)) 8 ≤ 8 * (16 * 16) := pq_S_le _ _ 8 (fun j hj => Nat.mul_le_mul (hm j hj) (hm j hj))
  intro d
  induction d with
  | zero =>
    intro j hj
    have e : j = 8 := by omega
    subst e
    exact br_t (nI_le (a := 8) (Nat.le_refl _) (by decide)) ⟨9, px_52 hb hq hY hm (fun t ht => pq_S_ge (fun j => pq_mg (Y j) * pq_mg (Y j)) ht) (by omega) K 8 0 x_decoded (by omega) (fun t h => absurd h (Nat.not_lt_zero t)) (fun _ _ => rfl)⟩
  | succ d ih =>
    intro j hj
    have e1 : 32 + nI (8 * b) + nI j = nI (32 + 8 * b + j) := by rw [show (32 : Int32) = nI 32 from rfl, nI_add, nI_add]
    refine br_f (nI_ge (b := 8) (by omega) (by decide)) ⟨pk_in (32 + 8 * b + j) 64 (by omega) e1, nm_r (e' := (Y j).toInt64) (by rw [e1, nI_clamp (by omega), hY j (by omega)]) (nm_r ?_ (nm_r (nI_1 j) (ih (j + 1) (by omega))))⟩
    rw [pq_mgL, lN_add]
    rfl
theorem px_scale {post : St2 → Prop} {Y : Nat → Int32} {q : Nat} {p1 : Int32} (e1 : p1 = nI q) (hb : b < 4) (hq : q ≤ 33) (hY : ∀ t, t < 8 → x_pulses (32 + 8 * b + t) = Y t) (hm : ∀ t, t < 8 → pq_mg (Y t) ≤ 16)
    (K : ∀ de : Nat → Int32, (∀ j, j < 8 → de (8 * b + j) = pq_sc (Y j) q (pq_S (fun j => pq_mg (Y j) * pq_mg (Y j)) 8)) → (∀ i, (i < 8 * b ∨ 8 * b + 8 ≤ i) → de i = x_decoded i) → post (x_length, x_low, x_encoderRange, x_cache, x_pending, x_readPosition, x_decoderRange, x_code, x_decoderStep, x_pulseCounts, x_coefs, x_energies, x_pulses, de, x_vec, x_sizes, x_packet)) : wpX_scaleBand post (x_length, x_low, x_encoderRange, x_cache, x_pending, x_readPosition, x_decoderRange, x_code, x_decoderStep, x_pulseCounts, x_coefs, x_energies, x_pulses, x_decoded, x_vec, x_sizes, x_packet) (nI b) p1 := by
  subst e1
  exact nm_r (pq_b8 b) ⟨9, px_11 hb hq hY hm K 8 0 (by omega)⟩
/-- what a frame decodes to, bands below n -/
def pq_fin (dq pk : Nat → Int32) (le : Nat) (pc : Nat → Int32) (n : Nat) (en pu de : Nat → Int32) : Prop :=
  (∀ c, c < n → en c = pq_qf dq pk le pc c) ∧ (∀ c j, c < n → j < 8 → pu (8 * c + j) = pq_y 8 (pq_k pc c) (pq_xi pk le pc c) j) ∧
  (∀ c j, c < n → j < 8 → de (8 * c + j) = pq_sc (pq_y 8 (pq_k pc c) (pq_xi pk le pc c) j) (pq_qn dq pk le pc c) (pq_z 8 (pq_k pc c) (pq_xi pk le pc c)))
theorem px_d6 {post : St2 → Prop} (hB : pq_B pk) (hl : le ≤ 64) (ht : pq_tb x_sizes) (hk : pq_HK x_pulseCounts)
    (K : ∀ (ds : Int64) (en pu de : Nat → Int32), pq_fin (fun j => x_energies (4 + j)) pk le x_pulseCounts 4 (fun j => en (4 + j)) (fun j => pu (32 + j)) de → (∀ j, j < 4 → en j = x_energies j) → (∀ i, i < 32 → pu i = x_pulses i) →
      post (nI le, x_low, x_encoderRange, x_cache, x_pending, nI ((pq_db pk le x_pulseCounts 4)).1, lN ((pq_db pk le x_pulseCounts 4)).2.1, lN ((pq_db pk le x_pulseCounts 4)).2.2, ds, x_pulseCounts, x_coefs, en, pu, de, x_vec, x_sizes, pk)) :
    ∀ d b (ds : Int64) (en pu de : Nat → Int32), b + d = 4 → pq_fin (fun j => x_energies (4 + j)) pk le x_pulseCounts b (fun j => en (4 + j)) (fun j => pu (32 + j)) de → (∀ j, (j < 4 ∨ 4 + b ≤ j) → en j = x_energies j) → (∀ i, i < 32 → pu i = x_pulses i) →
    wX_decodeFrame_6 post (d + 1) (nI b) (nI le) x_low x_encoderRange x_cache x_pending (nI ((pq_db pk le x_pulseCounts b)).1) (lN ((pq_db pk le x_pulseCounts b)).2.1) (lN ((pq_db pk le x_pulseCounts b)).2.2) ds x_pulseCounts x_coefs en pu de x_vec x_sizes pk := by
  intro d
  induction d with
  | zero =>
    intro b ds en pu de hb h1 h2 h3
    have e : b = 4 := by omega
    subst e
    exact br_t (nI_le (a := 4) (Nat.le_refl _) (by decide)) (K ds en pu de h1 (fun j hj => h2 j (Or.inl hj)) h3)
  | succ d ih =>
    intro b ds en pu de hb h1 h2 h3
    have hb4 : b < 4 := by omega
    have hD := pq_db_s pk le hk b (by omega)
    have hD2 := pq_de_s pk le hD
    have ⟨k1, k2, k3⟩ := pq_k_s hk hb4
    have hx := pq_xi_lt pk le hk hb4
    have ⟨q1, q2⟩ := pq_qf_s (fun j => x_energies (4 + j)) pk le x_pulseCounts b
    have e4 : 4 + nI b = nI (4 + b) := nI_add 4 b
    refine br_f (nI_ge (b := 4) (by omega) (by decide)) ⟨pk_in (4 + b) 8 (by omega) e4, ⟨by decide, ?_⟩⟩
    rw [e4, nI_clamp (by omega), h2 (4 + b) (Or.inr (Nat.le_refl _))]
    refine px_de hB hl hD (by omega) (px_clamp (px_dp hb4 hB hl ht hk hD2 (by omega) ?_))
    intro ds' pu' g1 g2
    refine ⟨vp_in_nI (by omega) (by decide), nm_r (e' := upd en (4 + b) (pq_qf (fun j => x_energies (4 + j)) pk le x_pulseCounts b)) rfl ?_⟩
    refine px_scale (Y := pq_y 8 (pq_k x_pulseCounts b) (pq_xi pk le x_pulseCounts b)) q1 hb4 q2 g1 (fun t ht => pq_y_mg (by omega) k2 hx ht) ?_
    intro de' f1 f2
    refine nm_r (nI_1 b) (ih (b + 1) ds' _ pu' de' (by omega) ⟨?_, ?_, ?_⟩ ?_ ?_)
    · intro c hc
      by_cases z : c = b
      · subst z; exact pk_us
      · show upd en (4 + b) _ (4 + c) = _
        rw [pk_un (by omega)]; exact h1.1 c (by omega)
    · intro c j hc hj
      by_cases z : c = b
      · subst z
        have := g1 j hj
        rw [Nat.add_assoc] at this
        exact this
      · show pu' (32 + (8 * c + j)) = _
        rw [g2 _ (by omega)]; exact h1.2.1 c j (by omega) hj
    · intro c j hc hj
      by_cases z : c = b
      · subst z; exact f1 j hj
      · rw [f2 _ (by omega)]; exact h1.2.2 c j (by omega) hj
    · intro j hj
      rw [pk_un (by omega)]
      exact h2 j (by omega)
    · intro i hi
      rw [g2 i (by omega)]
      exact h3 i hi
theorem px_decode {post : St2 → Prop} (hB : pq_B pk) (hl : le ≤ 64) (ht : pq_tb x_sizes) (hk : pq_HK x_pulseCounts)
    (K : ∀ (ds : Int64) (en pu de : Nat → Int32), pq_fin (fun j => x_energies (4 + j)) pk le x_pulseCounts 4 (fun j => en (4 + j)) (fun j => pu (32 + j)) de → (∀ j, j < 4 → en j = x_energies j) → (∀ i, i < 32 → pu i = x_pulses i) →
      post (nI le, x_low, x_encoderRange, x_cache, x_pending, nI ((pq_db pk le x_pulseCounts 4)).1, lN ((pq_db pk le x_pulseCounts 4)).2.1, lN ((pq_db pk le x_pulseCounts 4)).2.2, ds, x_pulseCounts, x_coefs, en, pu, de, x_vec, x_sizes, pk)) : wpX_decodeFrame post (nI le, x_low, x_encoderRange, x_cache, x_pending, x_readPosition, x_decoderRange, x_code, x_decoderStep, x_pulseCounts, x_coefs, x_energies, x_pulses, x_decoded, x_vec, x_sizes, pk) := by
  unfold wpX_decodeFrame
  dsimp only
  refine px_sd hB hl ⟨5, ?_⟩
  exact px_d6 hB hl ht hk K 4 0 x_decoderStep x_energies x_pulses x_decoded (by omega) ⟨fun c h => absurd h (Nat.not_lt_zero c), fun c _ h => absurd h (Nat.not_lt_zero c), fun c _ h => absurd h (Nat.not_lt_zero c)⟩ (fun _ _ => rfl) (fun _ _ => rfl)
end PQX
