/-! numbers as they are printed -/
theorem pq_sh64 : ∀ b, b < 64 → (((nI b).toInt64 &&& 63).toBitVec.smod 64).toNat = b := by decide +kernel
theorem pq_p2 : ∀ b, b ≤ 8 → (1 : Int32) <<< (nI b &&& 31) = nI (2 ^ b) := by decide +kernel
theorem pq_p2m : ∀ b, b ≤ 8 → (nI (2 ^ b) - 1).toBitVec.toNat = 2 ^ b - 1 := by decide +kernel
theorem pq_f32 : ∀ s, s ≤ 8 → (32 : Int32) >>> (((nI s + 1) / 2) &&& 31) = nI (pq_f s) := by decide +kernel
theorem pq_lz {a : Nat} (ha : a < 2 ^ 63) : lN a ≤ 0 ↔ a = 0 := by
  have := pk_lLE ha (b := 0) (by decide)
  rw [show (0 : Int64) = lN 0 from rfl, this]
  omega
theorem pq_l1 {a : Nat} (h1 : 1 ≤ a) (ha : a < 2 ^ 63) : (1 : Int64) ≤ lN a := (pk_lLE (a := 1) (by decide) ha).mpr h1
theorem pq_ln0 {a : Nat} (h1 : 1 ≤ a) (ha : a < 2 ^ 63) : ¬ lN a = 0 := fun z => by
  have := (pk_lEQ ha (b := 0) (by decide)).mp z
  omega
theorem pq_i17 (n k : Nat) : nI n * 17 + nI k = nI (n * 17 + k) := by
  rw [show (17 : Int32) = nI 17 from rfl, pk_mul, nI_add]
theorem pq_i8 (b j : Nat) : nI b * 8 + nI j = nI (8 * b + j) := by
  rw [show (8 : Int32) = nI 8 from rfl, pk_mul, nI_add, Nat.mul_comm]
theorem pq_8i (b j : Nat) : 8 * nI b + nI j = nI (8 * b + j) := by
  rw [show (8 : Int32) = nI 8 from rfl, pk_mul, nI_add]
theorem pq_b8 (b : Nat) : nI b * 8 = nI (8 * b) := by
  rw [show (8 : Int32) = nI 8 from rfl, pk_mul, Nat.mul_comm]
theorem pq_2i (a : Nat) : 2 * nI a = nI (2 * a) := by
  rw [show (2 : Int32) = nI 2 from rfl, pk_mul]
theorem pq_0i (a : Nat) : 0 + nI a = nI a := by
  rw [show (0 : Int32) = nI 0 from rfl, nI_add, Nat.zero_add]
def pq_tb (t : Nat → Int32) : Prop := ∀ j, j < 153 → t j = nI (pq_t j)
theorem pq_tb_V {t : Nat → Int32} (h : pq_tb t) {n k : Nat} (hn : n ≤ 8) (hk : k ≤ 16) : t (n * 17 + k) = nI (pq_V n k) := h _ (by omega)
theorem pq_nlt0 {x : Int32} (h : ¬ x < 0) : 0 ≤ x := Int32.not_lt.mp h
theorem pq_nle0 {x : Int32} (h : x < 0) : ¬ 0 ≤ x := Int32.not_le.mpr h
section PQS
variable {x_length x_cache x_pending x_readPosition : Int32} {x_low x_encoderRange x_decoderRange x_code x_decoderStep : Int64} {x_pulseCounts x_coefs x_energies x_pulses x_decoded x_vec x_sizes x_packet : Nat → Int32}
theorem px_clamp {post : Int32 → Prop} {v lo hi : Int32} (h : post (pq_cl v lo hi)) : wpX_clamp post () v lo hi := by
  unfold pq_cl at h
  by_cases a : v < lo
  · rw [if_pos a] at h
    exact br_f (Int32.not_le.mpr a) h
  · rw [if_neg a] at h
    refine br_t (Int32.not_lt.mp a) ?_
    by_cases b : hi < v
    · rw [if_pos b] at h; exact br_f (Int32.not_le.mpr b) h
    · rw [if_neg b] at h; exact br_t (Int32.not_lt.mp b) h
theorem px_mag {post : Int32 → Prop} {v : Int32} (h : post (nI (pq_mg v))) : wpX_magnitude post () v := by
  by_cases c : v < 0
  · exact br_f (pq_nle0 c) (by rw [pq_mg_n c]; exact h)
  · exact br_t (pq_nlt0 c) (by rw [pq_mg_p c]; exact h)
theorem px_bl2 {post : Int32 → Prop} {M : Nat} (hM : M < 2 ^ 40) (h : post (nI (pq_bl M))) : ∀ d b, b + d = pq_bl M → wX_bitLength_2 post (lN M) (d + 1) (nI b) := by
  have hB := pq_bl_b hM
  intro d
  induction d with
  | zero =>
    intro b hb
    have e : lN M >>> ((nI b).toInt64 &&& 63) = lN (M / 2 ^ b) := pf_shr (pq_sh64 b (by omega)) (by omega)
    have z : lN M >>> ((nI b).toInt64 &&& 63) ≤ 0 := by
      have h2 := pq_bl_lt M
      have h3 : b = pq_bl M := by omega
      rw [← h3] at h2
      rw [e, pq_lz (Nat.lt_of_le_of_lt (Nat.div_le_self _ _) (by omega))]
      exact Nat.div_eq_of_lt h2
    have h4 : post (nI b) := by rw [show b = pq_bl M by omega]; exact h
    exact br_f (nI_ge (b := 63) (by omega) (by decide)) (br_t z h4)
  | succ d ih =>
    intro b hb
    have e : lN M >>> ((nI b).toInt64 &&& 63) = lN (M / 2 ^ b) := pf_shr (pq_sh64 b (by omega)) (by omega)
    have z : ¬ lN M >>> ((nI b).toInt64 &&& 63) ≤ 0 := by
      have h2 := pq_bl_le (M := M) (j := b) (by omega)
      have h3 := Nat.div_pos h2 (Nat.two_pow_pos b)
      rw [e, pq_lz (Nat.lt_of_le_of_lt (Nat.div_le_self _ _) (by omega))]
      omega
    exact br_f (nI_ge (b := 63) (by omega) (by decide)) (br_f z (nm_r (nI_1 b) (ih (b + 1) (by omega))))
theorem px_bl {post : Int32 → Prop} {M : Nat} {p0 : Int64} (e0 : p0 = lN M) (hM : M < 2 ^ 40) (h : post (nI (pq_bl M))) : wpX_bitLength post () p0 := by
  subst e0
  exact ⟨pq_bl M + 1, px_bl2 hM h (pq_bl M) 0 (by omega)⟩
theorem px_sq6 {post : Int32 → Prop} {M : Nat} (hM : M < 2 ^ 42) (h : post (nI (pq_rt M))) : ∀ b R, b ≤ 21 → R * R ≤ M → M < (R + 2 ^ b) * (R + 2 ^ b) → R + 2 ^ b ≤ 2 ^ 21 → wX_squareRoot_6 post (lN M) (b + 1) (lN R) (nI b + (-1)) := by
  intro b
  induction b with
  | zero =>
    intro R _ h1 h2 _
    have e : R = pq_rt M := pq_rt_u h1 h2
    refine br_t (by decide) ?_
    rw [lN_i, e]
    exact h
  | succ b ih =>
    intro R hb h1 h2 h3
    rw [pk_m1]
    have p : 2 ^ (b + 1) = 2 ^ b + 2 ^ b := by rw [Nat.pow_succ]; omega
    have pp : 1 ≤ 2 ^ b := Nat.one_le_two_pow
    have e : lN R + (1 : Int64) <<< ((nI b).toInt64 &&& 63) = lN (R + 2 ^ b) := by
      show lN R + lN 1 <<< ((nI b).toInt64 &&& 63) = _
      rw [wb_shl 1 (by omega), Nat.one_mul, lN_add]
    have q : (R + 2 ^ b) * (R + 2 ^ b) < 2 ^ 63 := by
      have : (R + 2 ^ b) * (R + 2 ^ b) ≤ 2 ^ 21 * 2 ^ 21 := Nat.mul_le_mul (by omega) (by omega)
      omega
    refine br_f (nI_pos (by omega)) (nm_r e ?_)
    by_cases c : M < (R + 2 ^ b) * (R + 2 ^ b)
    · refine br_t (by rw [lN_mul, pk_lLT (by omega) q]; exact c) (nm_e ?_)
      exact ih R (by omega) h1 c (by omega)
    · refine br_f (by rw [lN_mul, pk_lLT (by omega) q]; exact c) (nm_e ?_)
      exact ih (R + 2 ^ b) (by omega) (by omega) (by rw [Nat.add_assoc, ← p]; exact h2) (by omega)
theorem px_sq {post : Int32 → Prop} {M : Nat} {p0 : Int64} (e0 : p0 = lN M) (hM : M < 2 ^ 42) (h : post (nI (pq_rt M))) : wpX_squareRoot post () p0 := by
  subst e0
  exact ⟨22, px_sq6 hM h 21 0 (by omega) (by omega) (by omega) (by omega)⟩
theorem px_quo {post : Int64 → Prop} {a b : Nat} {p0 p1 : Int64} (e0 : p0 = lN a) (e1 : p1 = lN b) (ha : a < 2 ^ 63) (h1 : 1 ≤ b) (hb : b < 2 ^ 63) (h : post (lN (a / b))) : wpX_quotient post () p0 p1 := by
  subst e0 e1
  exact br_t (pq_l1 h1 hb) ⟨pq_ln0 h1 hb, by rw [pk_lDiv ha h1 hb]; exact h⟩
theorem px_size {post : Int32 → Prop} {n k : Nat} {p0 p1 : Int32} (ht : pq_tb x_sizes) (hn : n ≤ 8) (hk : k ≤ 16) (e0 : p0 = nI n) (e1 : p1 = nI k) (h : post (nI (pq_V n k))) : wpX_sizeOf post (x_length, x_low, x_encoderRange, x_cache, x_pending, x_readPosition, x_decoderRange, x_code, x_decoderStep, x_pulseCounts, x_coefs, x_energies, x_pulses, x_decoded, x_vec, x_sizes, x_packet) p0 p1 := by
  subst e0 e1
  refine br_f (nI_pos (by omega)) (br_f (nI_nlt (a := 8) hn (by decide)) (br_f (nI_pos (by omega)) (br_t (nI_le (b := 16) hk (by decide)) ⟨pk_in (n * 17 + k) 153 (by omega) (pq_i17 n k), ?_⟩)))
  rw [pk_cl (n * 17 + k) (pq_i17 n k), pq_tb_V ht hn hk]
  exact h
theorem px_cwf {post : Int32 → Prop} {m n k : Nat} {p0 p1 p2 : Int32} (ht : pq_tb x_sizes) (hn : n < 8) (hm : m ≤ k) (hk : k ≤ 16) (e0 : p0 = nI m) (e1 : p1 = nI (n + 1)) (e2 : p2 = nI k) (h : post (nI ((if m = 0 then 1 else 2) * pq_V n (k - m)))) : wpX_countWithFirst post (x_length, x_low, x_encoderRange, x_cache, x_pending, x_readPosition, x_decoderRange, x_code, x_decoderStep, x_pulseCounts, x_coefs, x_energies, x_pulses, x_decoded, x_vec, x_sizes, x_packet) p0 p1 p2 := by
  subst e0 e1 e2
  unfold wpX_countWithFirst
  dsimp only
  refine px_size (n := n) (k := k - m) ht (by omega) (by omega) (nI_pred n) (pk_sub hm) ?_
  by_cases z : m = 0
  · rw [if_pos z, Nat.one_mul] at h
    exact br_t (by rw [z]; rfl) h
  · rw [if_neg z] at h
    exact br_f (nI_ne0 (by omega) (by omega)) (by rw [pq_2i]; exact h)
theorem px_sym {post : Int32 → Prop} {s : Nat} {p0 : Int32} (e0 : p0 = nI s) (hs : s < 2 ^ 31) (h : post (nI (pq_f s))) : wpX_symbolSize post () p0 := by
  subst e0
  by_cases c : s ≤ 8
  · exact br_f (nI_nlt (a := 8) c (by decide)) ⟨by decide, by rw [pq_f32 s c]; exact h⟩
  · have e : pq_f s = 1 := if_neg c
    rw [e] at h
    exact br_t (nI_lt (a := 8) (by omega) hs) h
theorem px_low {post : Int32 → Prop} {k : Nat} {p0 : Int32} (hk : k ≤ 16) (e0 : p0 = nI (pq_V 8 k)) (h : post (nI (pq_ap k))) : wpX_lowBits post () p0 := by
  subst e0
  have hv := pq_Vle (n := 8) (k := k) (by omega) hk
  have hp := pq_Vpos k (by omega)
  by_cases c : pq_V 8 k ≤ 65536
  · have e : pq_ap k = 0 := if_pos c
    rw [e] at h
    exact br_f (nI_nlt (a := 65536) c (by decide)) h
  · have ⟨_, _, _, a4⟩ := pq_ap_s k (by omega) (by omega)
    refine br_t (nI_lt (a := 65536) (by omega) (by omega)) ?_
    have e : (nI (pq_V 8 k) - 1).toInt64 = lN (pq_V 8 k - 1) := by
      rw [show (1 : Int32) = nI 1 from rfl, pk_sub hp, nI_l (by omega)]
    refine px_bl e (by omega) ?_
    rw [a4, show (16 : Int32) = nI 16 from rfl, pk_sub (by omega), Nat.add_sub_cancel]
    exact h
end PQS
