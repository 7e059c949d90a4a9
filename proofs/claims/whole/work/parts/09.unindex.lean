/-! an index taken apart -/
theorem pq_cn_le {n k m : Nat} (hn : n ≤ 8) (hk : k ≤ 16) : (if m = 0 then 1 else 2) * pq_V n (k - m) ≤ 30316544 := by
  have := pq_Vle (n := n) (k := k - m) hn (by omega)
  split <;> omega
section PQU
variable {x_length x_cache x_pending x_readPosition : Int32} {x_low x_encoderRange x_decoderRange x_code x_decoderStep : Int64} {x_pulseCounts x_coefs x_energies x_pulses x_decoded x_vec x_sizes x_packet : Nat → Int32}
variable {y_pktLen y_pending y_rpos : Int32} {y_low y_rng y_cache y_drng y_dcode y_dr : Int64} {y_kb y_inp y_encQ y_encP y_decQ y_decP y_decC y_pkt y_vec y_work y_vt : Nat → Int32}
theorem px_pulses74 {post : SX → Prop} {J : Int32 → Int32 → Int32 → (Nat → Int32) → (Nat → Int32) → (Nat → Int32) → (Nat → Int32) → (Nat → Int32) → (Nat → Int32) → (Nat → Int32) → (Nat → Int32) → Prop} {fr i n k r : Nat} (ht : pq_tb x_sizes) (hn : i + n < 8) (hf : fr + i < 64) (hk : k ≤ 16) (hr : r < pq_V (n + 1) k)
    (h : J (nI (pq_ur n k r)) (nI (k - pq_fm n k r)) (nI (i + 1)) x_pulseCounts x_coefs x_energies (upd x_pulses (fr + i) (pq_uy n k r)) x_decoded x_vec x_sizes x_packet) :
    wX_unindex__pulses_74 post J (nI fr) (nI (i + n + 1)) (nI (r - pq_W n k (pq_fm n k r))) (nI k) (nI i) (nI (pq_fm n k r)) x_length x_low x_encoderRange x_cache x_pending x_readPosition x_decoderRange x_code x_decoderStep x_pulseCounts x_coefs x_energies x_pulses x_decoded x_vec x_sizes x_packet := by
  have ⟨f1, f2, f3⟩ := pq_fm_s (by omega) hk hr
  have hV := pq_Vle (n := n) (k := k - pq_fm n k r) (by omega) (by omega)
  have hR := pq_Vle (n := n + 1) (k := k) (by omega) hk
  refine nm_r (pk_sub f3) (px_size (n := n) (k := k - pq_fm n k r) ht (by omega) (by omega) ?_ rfl ?_)
  · rw [pk_sub (by omega), show i + n + 1 - i = n + 1 by omega, nI_pred]
  · by_cases g : pq_ng n k r
    · rw [pq_ur_n g, pq_uy_n g] at h
      obtain ⟨g1, g2⟩ := g
      refine br_f (nI_nle g1 (by omega)) (br_f (nI_nlt g2 (by omega)) (br_f (by decide) (nm_r (pk_sub g2) ?_)))
      exact br_f (by decide) ⟨pk_in (fr + i) 64 hf (nI_add fr i), nm_r (e' := upd x_pulses (fr + i) (-nI (pq_fm n k r))) (by rw [nI_add, nI_clamp (by omega)]) (nm_r (nI_1 i) h)⟩
    · rw [pq_ur_p g, pq_uy_p g] at h
      have K : wX_unindex__pulses_111 post J (nI fr) (nI (i + n + 1)) (nI (r - pq_W n k (pq_fm n k r))) (nI (k - pq_fm n k r)) (nI i) (nI (pq_fm n k r)) (nI (pq_V n (k - pq_fm n k r))) x_length x_low x_encoderRange x_cache x_pending x_readPosition x_decoderRange x_code x_decoderStep x_pulseCounts x_coefs x_energies x_pulses x_decoded x_vec x_sizes x_packet :=
        br_t rfl (br_t rfl ⟨pk_in (fr + i) 64 hf (nI_add fr i), nm_r (e' := upd x_pulses (fr + i) (nI (pq_fm n k r))) (by rw [nI_add, nI_clamp (by omega)]) (nm_r (nI_1 i) h)⟩)
      by_cases z : pq_fm n k r = 0
      · exact br_t (by rw [z]; decide) K
      · have g2 : r - pq_W n k (pq_fm n k r) < pq_V n (k - pq_fm n k r) := by
          have : ¬ pq_V n (k - pq_fm n k r) ≤ r - pq_W n k (pq_fm n k r) := fun y => g ⟨by omega, y⟩
          omega
        exact br_f (nI_nle (by omega) (by omega)) (br_t (nI_lt g2 (by omega)) K)
theorem px_pulses33 {post : SX → Prop} {J : Int32 → Int32 → Int32 → (Nat → Int32) → (Nat → Int32) → (Nat → Int32) → (Nat → Int32) → (Nat → Int32) → (Nat → Int32) → (Nat → Int32) → (Nat → Int32) → Prop} {fr i n k r : Nat} (ht : pq_tb x_sizes) (hn : i + n < 8) (hf : fr + i < 64) (hk : k ≤ 16) (hr : r < pq_V (n + 1) k)
    (h : J (nI (pq_ur n k r)) (nI (k - pq_fm n k r)) (nI (i + 1)) x_pulseCounts x_coefs x_energies (upd x_pulses (fr + i) (pq_uy n k r)) x_decoded x_vec x_sizes x_packet) : ∀ d m, m + d = pq_fm n k r →
    wX_unindex__pulses_33 post J (nI fr) (nI (i + n + 1)) (nI k) (nI i) x_length x_low x_encoderRange x_cache x_pending x_readPosition x_decoderRange x_code x_decoderStep x_pulseCounts x_coefs x_energies x_pulses x_decoded x_vec x_sizes x_packet (d + 1) (nI (r - pq_W n k m)) (nI m) (nI ((if m = 0 then 1 else 2) * pq_V n (k - m))) := by
  have ⟨f1, f2, f3⟩ := pq_fm_s (n := n) (by omega) hk hr
  have hR := pq_Vle (n := n + 1) (k := k) (by omega) hk
  intro d
  induction d with
  | zero =>
    intro m hm
    have e : m = pq_fm n k r := by omega
    have hc := pq_cn_le (n := n) (k := k) (m := m) (by omega) hk
    have h6 : pq_W n k (m + 1) = pq_W n k m + (if m = 0 then 1 else 2) * pq_V n (k - m) := rfl
    have K := px_pulses74 (post := post) (J := J) (x_length := x_length) (x_low := x_low) (x_encoderRange := x_encoderRange) (x_cache := x_cache) (x_pending := x_pending) (x_readPosition := x_readPosition) (x_decoderRange := x_decoderRange) (x_code := x_code) (x_decoderStep := x_decoderStep) (x_pulseCounts := x_pulseCounts) (x_coefs := x_coefs) (x_energies := x_energies) (x_pulses := x_pulses) (x_decoded := x_decoded) (x_vec := x_vec) (x_sizes := x_sizes) (x_packet := x_packet) ht hn hf hk hr h
    rw [← e] at K f1 f2
    by_cases c : k ≤ m
    · exact br_t (nI_le c (by omega)) K
    · exact br_f (nI_ge (by omega) (by omega)) (br_t (nI_lt (by omega) (by omega)) K)
  | succ d ih =>
    intro m hm
    have hc := pq_cn_le (n := n) (k := k) (m := m) (by omega) hk
    have h6 : pq_W n k (m + 1) = pq_W n k m + (if m = 0 then 1 else 2) * pq_V n (k - m) := rfl
    have h7 : pq_W n k (m + 1) ≤ pq_W n k (pq_fm n k r) := pq_W_mono n k (by omega)
    refine br_f (nI_ge (by omega) (by omega)) (br_f (nI_nlt (by omega) (by omega)) (nm_r (e' := nI (r - pq_W n k (m + 1))) ?_ (nm_r (nI_1 m) (px_cwf (m := m + 1) (n := n) (k := k) ht (by omega) (by omega) hk rfl ?_ rfl ?_))))
    · rw [pk_sub (by omega)]
      congr 1
      omega
    · rw [pk_sub (by omega), show i + n + 1 - i = n + 1 by omega]
    · exact ih (m + 1) (by omega)
theorem px_pulses11 {post : SX → Prop} {fr n0 k r : Nat} (ht : pq_tb x_sizes) (hn : n0 ≤ 8) (hf : fr + n0 ≤ 64) (hk : k ≤ 16) (hr : r < pq_V n0 k)
    (K : ∀ c' : Nat → Int32, (∀ t, t < n0 → c' (fr + t) = pq_y n0 k r t) → (∀ j, (j < fr ∨ fr + n0 ≤ j) → c' j = x_pulses j) → post (x_length, x_low, x_encoderRange, x_cache, x_pending, x_readPosition, x_decoderRange, x_code, x_decoderStep, x_pulseCounts, x_coefs, x_energies, c', x_decoded, x_vec, x_sizes, x_packet)) : ∀ d i (c' : Nat → Int32), i + d = n0 → (∀ t, t < i → c' (fr + t) = pq_y n0 k r t) → (∀ j, (j < fr ∨ fr + n0 ≤ j) → c' j = x_pulses j) →
    wX_unindex__pulses_11 post (nI fr) (nI n0) x_length x_low x_encoderRange x_cache x_pending x_readPosition x_decoderRange x_code x_decoderStep (d + 1) (nI (pq_us n0 k r i).2) (nI (pq_us n0 k r i).1) (nI i) x_pulseCounts x_coefs x_energies c' x_decoded x_vec x_sizes x_packet := by
  intro d
  induction d with
  | zero =>
    intro i c' hi h1 h2
    have e : i = n0 := by omega
    subst e
    exact br_t (nI_le (Nat.le_refl _) (by omega)) (K c' h1 h2)
  | succ d ih =>
    intro i c' hi h1 h2
    have e : n0 - i - 1 = d := by omega
    have e2 : i + d + 1 = n0 := by omega
    have ⟨s1, s2⟩ := pq_us_s hn hk hr i (by omega)
    rw [show n0 - i = d + 1 by omega] at s2
    have u1 : (pq_us n0 k r (i + 1)).1 = (pq_us n0 k r i).1 - pq_fm d (pq_us n0 k r i).1 (pq_us n0 k r i).2 := by
      show (pq_us n0 k r i).1 - pq_fm (n0 - i - 1) (pq_us n0 k r i).1 (pq_us n0 k r i).2 = _
      rw [e]
    have u2 : (pq_us n0 k r (i + 1)).2 = pq_ur d (pq_us n0 k r i).1 (pq_us n0 k r i).2 := by
      show pq_ur (n0 - i - 1) (pq_us n0 k r i).1 (pq_us n0 k r i).2 = _
      rw [e]
    have u3 : pq_y n0 k r i = pq_uy d (pq_us n0 k r i).1 (pq_us n0 k r i).2 := by
      show pq_uy (n0 - i - 1) (pq_us n0 k r i).1 (pq_us n0 k r i).2 = _
      rw [e]
    have IH := ih (i + 1) (upd c' (fr + i) (pq_uy d (pq_us n0 k r i).1 (pq_us n0 k r i).2)) (by omega) (by
      intro t ht2
      by_cases z : t = i
      · subst z; rw [pk_us, u3]
      · rw [pk_un (by omega)]; exact h1 t (by omega)) (by
      intro j hj
      rw [pk_un (by omega)]
      exact h2 j hj)
    rw [u1, u2] at IH
    refine br_f (nI_ge (by omega) (by omega)) (px_cwf (m := 0) (n := d) (k := (pq_us n0 k r i).1) ht (by omega) (by omega) s1 rfl ?_ rfl ⟨pq_fm d (pq_us n0 k r i).1 (pq_us n0 k r i).2 + 1, ?_⟩)
    · rw [pk_sub (by omega)]
      congr 1
      omega
    · have G := px_pulses33 (post := post) (J := wX_unindex__pulses_11 post (nI fr) (nI n0) x_length x_low x_encoderRange x_cache x_pending x_readPosition x_decoderRange x_code x_decoderStep (d + 1)) (x_length := x_length) (x_low := x_low) (x_encoderRange := x_encoderRange) (x_cache := x_cache) (x_pending := x_pending) (x_readPosition := x_readPosition) (x_decoderRange := x_decoderRange) (x_code := x_code) (x_decoderStep := x_decoderStep) (x_pulseCounts := x_pulseCounts) (x_coefs := x_coefs) (x_energies := x_energies) (x_pulses := c') (x_decoded := x_decoded) (x_vec := x_vec) (x_sizes := x_sizes) (x_packet := x_packet) (fr := fr) (i := i) (n := d) (k := (pq_us n0 k r i).1) (r := (pq_us n0 k r i).2) ht (by omega) (by omega) s1 s2 IH (pq_fm d (pq_us n0 k r i).1 (pq_us n0 k r i).2) 0 (by omega)
      rw [e2] at G
      exact G
theorem px_pulsesun {post : SX → Prop} {fr n k r : Nat} {p1 p2 p3 p4 : Int32} (ht : pq_tb x_sizes) (hn : n ≤ 8) (hf : fr + n ≤ 64) (hk : k ≤ 16) (hr : r < pq_V n k) (e1 : p1 = nI fr) (e2 : p2 = nI n) (e3 : p3 = nI k) (e4 : p4 = nI r)
    (K : ∀ c' : Nat → Int32, (∀ t, t < n → c' (fr + t) = pq_y n k r t) → (∀ j, (j < fr ∨ fr + n ≤ j) → c' j = x_pulses j) → post (x_length, x_low, x_encoderRange, x_cache, x_pending, x_readPosition, x_decoderRange, x_code, x_decoderStep, x_pulseCounts, x_coefs, x_energies, c', x_decoded, x_vec, x_sizes, x_packet)) : wpX_unindex__pulses post (x_length, x_low, x_encoderRange, x_cache, x_pending, x_readPosition, x_decoderRange, x_code, x_decoderStep, x_pulseCounts, x_coefs, x_energies, x_pulses, x_decoded, x_vec, x_sizes, x_packet) p1 p2 p3 p4 := by
  subst e1 e2 e3 e4
  exact ⟨n + 1, px_pulses11 ht hn hf hk hr K n 0 x_pulses (by omega) (fun t h => absurd h (Nat.not_lt_zero t)) (fun _ _ => rfl)⟩
theorem px_vec74 {post : SX → Prop} {J : Int32 → Int32 → Int32 → (Nat → Int32) → (Nat → Int32) → (Nat → Int32) → (Nat → Int32) → (Nat → Int32) → (Nat → Int32) → (Nat → Int32) → (Nat → Int32) → Prop} {fr i n k r : Nat} (ht : pq_tb x_sizes) (hn : i + n < 8) (hf : fr + i < 8) (hk : k ≤ 16) (hr : r < pq_V (n + 1) k)
    (h : J (nI (pq_ur n k r)) (nI (k - pq_fm n k r)) (nI (i + 1)) x_pulseCounts x_coefs x_energies x_pulses x_decoded (upd x_vec (fr + i) (pq_uy n k r)) x_sizes x_packet) :
    wX_unindex__vec_74 post J (nI fr) (nI (i + n + 1)) (nI (r - pq_W n k (pq_fm n k r))) (nI k) (nI i) (nI (pq_fm n k r)) x_length x_low x_encoderRange x_cache x_pending x_readPosition x_decoderRange x_code x_decoderStep x_pulseCounts x_coefs x_energies x_pulses x_decoded x_vec x_sizes x_packet := by
  have ⟨f1, f2, f3⟩ := pq_fm_s (by omega) hk hr
  have hV := pq_Vle (n := n) (k := k - pq_fm n k r) (by omega) (by omega)
  have hR := pq_Vle (n := n + 1) (k := k) (by omega) hk
  refine nm_r (pk_sub f3) (px_size (n := n) (k := k - pq_fm n k r) ht (by omega) (by omega) ?_ rfl ?_)
  · rw [pk_sub (by omega), show i + n + 1 - i = n + 1 by omega, nI_pred]
  · by_cases g : pq_ng n k r
    · rw [pq_ur_n g, pq_uy_n g] at h
      obtain ⟨g1, g2⟩ := g
      refine br_f (nI_nle g1 (by omega)) (br_f (nI_nlt g2 (by omega)) (br_f (by decide) (nm_r (pk_sub g2) ?_)))
      exact br_f (by decide) ⟨pk_in (fr + i) 8 hf (nI_add fr i), nm_r (e' := upd x_vec (fr + i) (-nI (pq_fm n k r))) (by rw [nI_add, nI_clamp (by omega)]) (nm_r (nI_1 i) h)⟩
    · rw [pq_ur_p g, pq_uy_p g] at h
      have K : wX_unindex__vec_111 post J (nI fr) (nI (i + n + 1)) (nI (r - pq_W n k (pq_fm n k r))) (nI (k - pq_fm n k r)) (nI i) (nI (pq_fm n k r)) (nI (pq_V n (k - pq_fm n k r))) x_length x_low x_encoderRange x_cache x_pending x_readPosition x_decoderRange x_code x_decoderStep x_pulseCounts x_coefs x_energies x_pulses x_decoded x_vec x_sizes x_packet :=
        br_t rfl (br_t rfl ⟨pk_in (fr + i) 8 hf (nI_add fr i), nm_r (e' := upd x_vec (fr + i) (nI (pq_fm n k r))) (by rw [nI_add, nI_clamp (by omega)]) (nm_r (nI_1 i) h)⟩)
      by_cases z : pq_fm n k r = 0
      · exact br_t (by rw [z]; decide) K
      · have g2 : r - pq_W n k (pq_fm n k r) < pq_V n (k - pq_fm n k r) := by
          have : ¬ pq_V n (k - pq_fm n k r) ≤ r - pq_W n k (pq_fm n k r) := fun y => g ⟨by omega, y⟩
          omega
        exact br_f (nI_nle (by omega) (by omega)) (br_t (nI_lt g2 (by omega)) K)
theorem px_vec33 {post : SX → Prop} {J : Int32 → Int32 → Int32 → (Nat → Int32) → (Nat → Int32) → (Nat → Int32) → (Nat → Int32) → (Nat → Int32) → (Nat → Int32) → (Nat → Int32) → (Nat → Int32) → Prop} {fr i n k r : Nat} (ht : pq_tb x_sizes) (hn : i + n < 8) (hf : fr + i < 8) (hk : k ≤ 16) (hr : r < pq_V (n + 1) k)
    (h : J (nI (pq_ur n k r)) (nI (k - pq_fm n k r)) (nI (i + 1)) x_pulseCounts x_coefs x_energies x_pulses x_decoded (upd x_vec (fr + i) (pq_uy n k r)) x_sizes x_packet) : ∀ d m, m + d = pq_fm n k r →
    wX_unindex__vec_33 post J (nI fr) (nI (i + n + 1)) (nI k) (nI i) x_length x_low x_encoderRange x_cache x_pending x_readPosition x_decoderRange x_code x_decoderStep x_pulseCounts x_coefs x_energies x_pulses x_decoded x_vec x_sizes x_packet (d + 1) (nI (r - pq_W n k m)) (nI m) (nI ((if m = 0 then 1 else 2) * pq_V n (k - m))) := by
  have ⟨f1, f2, f3⟩ := pq_fm_s (n := n) (by omega) hk hr
  have hR := pq_Vle (n := n + 1) (k := k) (by omega) hk
  intro d
  induction d with
  | zero =>
    intro m hm
    have e : m = pq_fm n k r := by omega
    have hc := pq_cn_le (n := n) (k := k) (m := m) (by omega) hk
    have h6 : pq_W n k (m + 1) = pq_W n k m + (if m = 0 then 1 else 2) * pq_V n (k - m) := rfl
    have K := px_vec74 (post := post) (J := J) (x_length := x_length) (x_low := x_low) (x_encoderRange := x_encoderRange) (x_cache := x_cache) (x_pending := x_pending) (x_readPosition := x_readPosition) (x_decoderRange := x_decoderRange) (x_code := x_code) (x_decoderStep := x_decoderStep) (x_pulseCounts := x_pulseCounts) (x_coefs := x_coefs) (x_energies := x_energies) (x_pulses := x_pulses) (x_decoded := x_decoded) (x_vec := x_vec) (x_sizes := x_sizes) (x_packet := x_packet) ht hn hf hk hr h
    rw [← e] at K f1 f2
    by_cases c : k ≤ m
    · exact br_t (nI_le c (by omega)) K
    · exact br_f (nI_ge (by omega) (by omega)) (br_t (nI_lt (by omega) (by omega)) K)
  | succ d ih =>
    intro m hm
    have hc := pq_cn_le (n := n) (k := k) (m := m) (by omega) hk
    have h6 : pq_W n k (m + 1) = pq_W n k m + (if m = 0 then 1 else 2) * pq_V n (k - m) := rfl
    have h7 : pq_W n k (m + 1) ≤ pq_W n k (pq_fm n k r) := pq_W_mono n k (by omega)
    refine br_f (nI_ge (by omega) (by omega)) (br_f (nI_nlt (by omega) (by omega)) (nm_r (e' := nI (r - pq_W n k (m + 1))) ?_ (nm_r (nI_1 m) (px_cwf (m := m + 1) (n := n) (k := k) ht (by omega) (by omega) hk rfl ?_ rfl ?_))))
    · rw [pk_sub (by omega)]
      congr 1
      omega
    · rw [pk_sub (by omega), show i + n + 1 - i = n + 1 by omega]
    · exact ih (m + 1) (by omega)
theorem px_vec11 {post : SX → Prop} {fr n0 k r : Nat} (ht : pq_tb x_sizes) (hn : n0 ≤ 8) (hf : fr + n0 ≤ 8) (hk : k ≤ 16) (hr : r < pq_V n0 k)
    (K : ∀ c' : Nat → Int32, (∀ t, t < n0 → c' (fr + t) = pq_y n0 k r t) → (∀ j, (j < fr ∨ fr + n0 ≤ j) → c' j = x_vec j) → post (x_length, x_low, x_encoderRange, x_cache, x_pending, x_readPosition, x_decoderRange, x_code, x_decoderStep, x_pulseCounts, x_coefs, x_energies, x_pulses, x_decoded, c', x_sizes, x_packet)) : ∀ d i (c' : Nat → Int32), i + d = n0 → (∀ t, t < i → c' (fr + t) = pq_y n0 k r t) → (∀ j, (j < fr ∨ fr + n0 ≤ j) → c' j = x_vec j) →
    wX_unindex__vec_11 post (nI fr) (nI n0) x_length x_low x_encoderRange x_cache x_pending x_readPosition x_decoderRange x_code x_decoderStep (d + 1) (nI (pq_us n0 k r i).2) (nI (pq_us n0 k r i).1) (nI i) x_pulseCounts x_coefs x_energies x_pulses x_decoded c' x_sizes x_packet := by
  intro d
  induction d with
  | zero =>
    intro i c' hi h1 h2
    have e : i = n0 := by omega
    subst e
    exact br_t (nI_le (Nat.le_refl _) (by omega)) (K c' h1 h2)
  | succ d ih =>
    intro i c' hi h1 h2
    have e : n0 - i - 1 = d := by omega
    have e2 : i + d + 1 = n0 := by omega
    have ⟨s1, s2⟩ := pq_us_s hn hk hr i (by omega)
    rw [show n0 - i = d + 1 by omega] at s2
    have u1 : (pq_us n0 k r (i + 1)).1 = (pq_us n0 k r i).1 - pq_fm d (pq_us n0 k r i).1 (pq_us n0 k r i).2 := by
      show (pq_us n0 k r i).1 - pq_fm (n0 - i - 1) (pq_us n0 k r i).1 (pq_us n0 k r i).2 = _
      rw [e]
    have u2 : (pq_us n0 k r (i + 1)).2 = pq_ur d (pq_us n0 k r i).1 (pq_us n0 k r i).2 := by
      show pq_ur (n0 - i - 1) (pq_us n0 k r i).1 (pq_us n0 k r i).2 = _
      rw [e]
    have u3 : pq_y n0 k r i = pq_uy d (pq_us n0 k r i).1 (pq_us n0 k r i).2 := by
      show pq_uy (n0 - i - 1) (pq_us n0 k r i).1 (pq_us n0 k r i).2 = _
      rw [e]
    have IH := ih (i + 1) (upd c' (fr + i) (pq_uy d (pq_us n0 k r i).1 (pq_us n0 k r i).2)) (by omega) (by
      intro t ht2
      by_cases z : t = i
      · subst z; rw [pk_us, u3]
      · rw [pk_un (by omega)]; exact h1 t (by omega)) (by
      intro j hj
      rw [pk_un (by omega)]
      exact h2 j hj)
    rw [u1, u2] at IH
    refine br_f (nI_ge (by omega) (by omega)) (px_cwf (m := 0) (n := d) (k := (pq_us n0 k r i).1) ht (by omega) (by omega) s1 rfl ?_ rfl ⟨pq_fm d (pq_us n0 k r i).1 (pq_us n0 k r i).2 + 1, ?_⟩)
    · rw [pk_sub (by omega)]
      congr 1
      omega
    · have G := px_vec33 (post := post) (J := wX_unindex__vec_11 post (nI fr) (nI n0) x_length x_low x_encoderRange x_cache x_pending x_readPosition x_decoderRange x_code x_decoderStep (d + 1)) (x_length := x_length) (x_low := x_low) (x_encoderRange := x_encoderRange) (x_cache := x_cache) (x_pending := x_pending) (x_readPosition := x_readPosition) (x_decoderRange := x_decoderRange) (x_code := x_code) (x_decoderStep := x_decoderStep) (x_pulseCounts := x_pulseCounts) (x_coefs := x_coefs) (x_energies := x_energies) (x_pulses := x_pulses) (x_decoded := x_decoded) (x_vec := c') (x_sizes := x_sizes) (x_packet := x_packet) (fr := fr) (i := i) (n := d) (k := (pq_us n0 k r i).1) (r := (pq_us n0 k r i).2) ht (by omega) (by omega) s1 s2 IH (pq_fm d (pq_us n0 k r i).1 (pq_us n0 k r i).2) 0 (by omega)
      rw [e2] at G
      exact G
theorem px_vecun {post : SX → Prop} {fr n k r : Nat} {p1 p2 p3 p4 : Int32} (ht : pq_tb x_sizes) (hn : n ≤ 8) (hf : fr + n ≤ 8) (hk : k ≤ 16) (hr : r < pq_V n k) (e1 : p1 = nI fr) (e2 : p2 = nI n) (e3 : p3 = nI k) (e4 : p4 = nI r)
    (K : ∀ c' : Nat → Int32, (∀ t, t < n → c' (fr + t) = pq_y n k r t) → (∀ j, (j < fr ∨ fr + n ≤ j) → c' j = x_vec j) → post (x_length, x_low, x_encoderRange, x_cache, x_pending, x_readPosition, x_decoderRange, x_code, x_decoderStep, x_pulseCounts, x_coefs, x_energies, x_pulses, x_decoded, c', x_sizes, x_packet)) : wpX_unindex__vec post (x_length, x_low, x_encoderRange, x_cache, x_pending, x_readPosition, x_decoderRange, x_code, x_decoderStep, x_pulseCounts, x_coefs, x_energies, x_pulses, x_decoded, x_vec, x_sizes, x_packet) p1 p2 p3 p4 := by
  subst e1 e2 e3 e4
  exact ⟨n + 1, px_vec11 ht hn hf hk hr K n 0 x_vec (by omega) (fun t h => absurd h (Nat.not_lt_zero t)) (fun _ _ => rfl)⟩
theorem py_147 {post : SY → Prop} {J : Int32 → Int32 → Int32 → (Nat → Int32) → (Nat → Int32) → (Nat → Int32) → (Nat → Int32) → (Nat → Int32) → (Nat → Int32) → (Nat → Int32) → (Nat → Int32) → (Nat → Int32) → (Nat → Int32) → (Nat → Int32) → Prop} {x1 : Int32} {i n k r : Nat} (hn : i + n < 8) (hk : k ≤ 16) (hr : r < pq_V (n + 1) k)
    (h : J (nI (k - pq_fm n k r)) (nI (pq_ur n k r)) (nI (i + 1)) y_kb y_inp y_encQ y_encP y_decQ y_decP y_decC y_pkt y_vec (upd y_work i (pq_uy n k r)) y_vt) :
    wY_unindexTo_147 post J x1 (nI k) (nI (pq_ur n k r)) (nI i) (pq_uy n k r) y_pktLen y_low y_rng y_cache y_pending y_rpos y_drng y_dcode y_dr y_kb y_inp y_encQ y_encP y_decQ y_decP y_decC y_pkt y_vec y_work y_vt := by
  have ⟨f1, f2, f3⟩ := pq_fm_s (by omega) hk hr
  refine ⟨vp_in_nI (by omega) (by decide), nm_r (e' := upd y_work i (pq_uy n k r)) (by rw [nI_clamp (by omega)]) ?_⟩
  by_cases g : pq_ng n k r
  · refine br_f ?_ (nm_r (e' := nI (k - pq_fm n k r)) ?_ (nm_r (nI_1 i) h))
    · rw [pq_uy_n g]; exact pq_nle0 (pq_neg_lt g.1 (by omega))
    · rw [pq_uy_n g, Int32.neg_neg, pk_sub f3]
  · refine br_t ?_ (nm_r (e' := nI (k - pq_fm n k r)) ?_ (nm_r (nI_1 i) h))
    · rw [pq_uy_p g]; exact nI_pos' (by omega)
    · rw [pq_uy_p g, pk_sub f3]
theorem py_39 {post : SY → Prop} {J : Int32 → Int32 → Int32 → (Nat → Int32) → (Nat → Int32) → (Nat → Int32) → (Nat → Int32) → (Nat → Int32) → (Nat → Int32) → (Nat → Int32) → (Nat → Int32) → (Nat → Int32) → (Nat → Int32) → (Nat → Int32) → Prop} {i n k r : Nat} (ht : pq_tb y_vt) (hn : i + n < 8) (hk : k ≤ 16) (hr : r < pq_V (n + 1) k)
    (h : J (nI (k - pq_fm n k r)) (nI (pq_ur n k r)) (nI (i + 1)) y_kb y_inp y_encQ y_encP y_decQ y_decP y_decC y_pkt y_vec (upd y_work i (pq_uy n k r)) y_vt) : ∀ d m, m + d = pq_fm n k r →
    wY_unindexTo_39 post J (nI (i + n + 1)) (nI k) (nI i) 0 y_pktLen y_low y_rng y_cache y_pending y_rpos y_drng y_dcode y_dr y_kb y_inp y_encQ y_encP y_decQ y_decP y_decC y_pkt y_vec y_work y_vt (d + 1) (nI (r - pq_W n k m)) (nI m) := by
  have ⟨f1, f2, f3⟩ := pq_fm_s (n := n) (by omega) hk hr
  have hR := pq_Vle (n := n + 1) (k := k) (by omega) hk
  have e1 : nI (i + n + 1) - nI i - 1 = nI n := by
    rw [pk_sub (by omega), show i + n + 1 - i = n + 1 by omega, nI_pred]
  intro d
  induction d with
  | zero =>
    intro m hm
    have e : m = pq_fm n k r := by omega
    have hV := pq_Vle (n := n) (k := k - m) (by omega) (by omega)
    have h6 : pq_W n k (m + 1) = pq_W n k m + (if m = 0 then 1 else 2) * pq_V n (k - m) := rfl
    have K := py_147 (post := post) (J := J) (x1 := nI (i + n + 1)) (y_pktLen := y_pktLen) (y_low := y_low) (y_rng := y_rng) (y_cache := y_cache) (y_pending := y_pending) (y_rpos := y_rpos) (y_drng := y_drng) (y_dcode := y_dcode) (y_dr := y_dr) (y_kb := y_kb) (y_inp := y_inp) (y_encQ := y_encQ) (y_encP := y_encP) (y_decQ := y_decQ) (y_decP := y_decP) (y_decC := y_decC) (y_pkt := y_pkt) (y_vec := y_vec) (y_work := y_work) (y_vt := y_vt) hn hk hr h
    refine br_f (nI_nlt (by omega) (by omega)) (br_f (nI_nlt (a := 16) (by omega) (by decide)) (py_vv (n := n) (k := k - m) ht (by omega) (by omega) e1 (pk_sub (by omega)) ?_))
    by_cases z : m = 0
    · rw [if_pos z] at h6
      have g : ¬ pq_ng n k r := fun y => by have := y.1; omega
      have k1 : pq_uy n k r = 0 := by rw [pq_uy_p g, ← e, z]; rfl
      rw [k1, pq_ur_p g, ← e] at K
      rw [← e] at f1 f2
      exact br_t (by rw [z]; rfl) (br_f (nI_ge (by omega) (by omega)) K)
    · rw [if_neg z] at h6
      refine br_f (nI_ne0 (by omega) (by omega)) ?_
      by_cases g2 : pq_V n (k - m) ≤ r - pq_W n k m
      · have g : pq_ng n k r := ⟨by omega, by rw [← e]; exact g2⟩
        rw [pq_uy_n g, pq_ur_n g, ← e] at K
        rw [← e] at f1 f2
        exact br_t (nI_le g2 (by omega)) (nm_r (pk_sub g2) (br_f (nI_ge (by omega) (by omega)) (nm_e K)))
      · have g : ¬ pq_ng n k r := fun y => by have := y.2; rw [← e] at this; omega
        rw [pq_uy_p g, pq_ur_p g, ← e] at K
        exact br_f (nI_ge (by omega) (by omega)) K
  | succ d ih =>
    intro m hm
    have hV := pq_Vle (n := n) (k := k - m) (by omega) (by omega)
    have h6 : pq_W n k (m + 1) = pq_W n k m + (if m = 0 then 1 else 2) * pq_V n (k - m) := rfl
    have h7 : pq_W n k (m + 1) ≤ pq_W n k (pq_fm n k r) := pq_W_mono n k (by omega)
    refine br_f (nI_nlt (by omega) (by omega)) (br_f (nI_nlt (a := 16) (by omega) (by decide)) (py_vv (n := n) (k := k - m) ht (by omega) (by omega) e1 (pk_sub (by omega)) ?_))
    by_cases z : m = 0
    · rw [if_pos z] at h6
      refine br_t (by rw [z]; rfl) (br_t (nI_le (by omega) (by omega)) (nm_r (e' := nI (r - pq_W n k (m + 1))) ?_ (nm_r (nI_1 m) (ih (m + 1) (by omega)))))
      rw [pk_sub (by omega)]
      congr 1
      omega
    · rw [if_neg z] at h6
      refine br_f (nI_ne0 (by omega) (by omega)) (br_t (nI_le (by omega) (by omega)) (nm_r (pk_sub (by omega)) (br_t (nI_le (by omega) (by omega)) (nm_r (e' := nI (r - pq_W n k (m + 1))) ?_ (nm_r (nI_1 m) (ih (m + 1) (by omega)))))))
      rw [pk_sub (by omega)]
      congr 1
      omega
theorem py_9t {post : SY → Prop} {n0 k r : Nat} (hn : n0 ≤ 8)
    (K : ∀ w : Nat → Int32, (∀ t, t < n0 → w t = pq_y n0 k r t) → (∀ t, n0 ≤ t → t < 8 → w t = 0) → post (y_pktLen, y_low, y_rng, y_cache, y_pending, y_rpos, y_drng, y_dcode, y_dr, y_kb, y_inp, y_encQ, y_encP, y_decQ, y_decP, y_decC, y_pkt, y_vec, w, y_vt)) : ∀ d i (x4 x5 : Int32) (w : Nat → Int32), i + d = 8 → n0 ≤ i → (∀ t, t < n0 → w t = pq_y n0 k r t) → (∀ t, n0 ≤ t → t < i → w t = 0) →
    wY_unindexTo_9 post (nI n0) y_pktLen y_low y_rng y_cache y_pending y_rpos y_drng y_dcode y_dr (d + 1) x4 x5 (nI i) y_kb y_inp y_encQ y_encP y_decQ y_decP y_decC y_pkt y_vec w y_vt := by
  intro d
  induction d with
  | zero =>
    intro i x4 x5 w hi hi2 h1 h2
    have e : i = 8 := by omega
    subst e
    exact br_t (nI_le (a := 8) (Nat.le_refl _) (by decide)) (K w h1 h2)
  | succ d ih =>
    intro i x4 x5 w hi hi2 h1 h2
    refine br_f (nI_ge (b := 8) (by omega) (by decide)) ⟨vp_in_nI (by omega) (by decide), nm_r (e' := upd w i 0) (by rw [nI_clamp (by omega)]) (br_f (nI_nlt hi2 (by omega)) (nm_r (nI_1 i) ?_))⟩
    refine ih (i + 1) x4 x5 (upd w i 0) (by omega) (by omega) ?_ ?_
    · intro t ht
      rw [pk_un (by omega)]
      exact h1 t ht
    · intro t ht1 ht2
      by_cases z : t = i
      · subst z; exact pk_us
      · rw [pk_un z]; exact h2 t ht1 (by omega)
theorem py_9 {post : SY → Prop} {n0 k r : Nat} (ht : pq_tb y_vt) (hn : n0 ≤ 8) (hk : k ≤ 16) (hr : r < pq_V n0 k)
    (K : ∀ w : Nat → Int32, (∀ t, t < n0 → w t = pq_y n0 k r t) → (∀ t, n0 ≤ t → t < 8 → w t = 0) → post (y_pktLen, y_low, y_rng, y_cache, y_pending, y_rpos, y_drng, y_dcode, y_dr, y_kb, y_inp, y_encQ, y_encP, y_decQ, y_decP, y_decC, y_pkt, y_vec, w, y_vt)) : ∀ d i (w : Nat → Int32), i + d = n0 → (∀ t, t < i → w t = pq_y n0 k r t) →
    wY_unindexTo_9 post (nI n0) y_pktLen y_low y_rng y_cache y_pending y_rpos y_drng y_dcode y_dr (d + (8 - n0 + 1)) (nI (pq_us n0 k r i).1) (nI (pq_us n0 k r i).2) (nI i) y_kb y_inp y_encQ y_encP y_decQ y_decP y_decC y_pkt y_vec w y_vt := by
  intro d
  induction d with
  | zero =>
    intro i w hi h1
    have e : i = n0 := by omega
    subst e
    rw [Nat.zero_add]
    exact py_9t hn K (8 - i) i _ _ w (by omega) (Nat.le_refl _) h1 (fun t a b => by omega)
  | succ d ih =>
    intro i w hi h1
    have e : n0 - i - 1 = d := by omega
    have e2 : i + d + 1 = n0 := by omega
    have ⟨s1, s2⟩ := pq_us_s hn hk hr i (by omega)
    rw [show n0 - i = d + 1 by omega] at s2
    have u1 : (pq_us n0 k r (i + 1)).1 = (pq_us n0 k r i).1 - pq_fm d (pq_us n0 k r i).1 (pq_us n0 k r i).2 := by
      show (pq_us n0 k r i).1 - pq_fm (n0 - i - 1) (pq_us n0 k r i).1 (pq_us n0 k r i).2 = _
      rw [e]
    have u2 : (pq_us n0 k r (i + 1)).2 = pq_ur d (pq_us n0 k r i).1 (pq_us n0 k r i).2 := by
      show pq_ur (n0 - i - 1) (pq_us n0 k r i).1 (pq_us n0 k r i).2 = _
      rw [e]
    have u3 : pq_y n0 k r i = pq_uy d (pq_us n0 k r i).1 (pq_us n0 k r i).2 := by
      show pq_uy (n0 - i - 1) (pq_us n0 k r i).1 (pq_us n0 k r i).2 = _
      rw [e]
    have IH := ih (i + 1) (upd (upd w i 0) i (pq_uy d (pq_us n0 k r i).1 (pq_us n0 k r i).2)) (by omega) (by
      intro t ht2
      by_cases z : t = i
      · subst z; rw [pk_us, u3]
      · rw [pk_un z, pk_un z]; exact h1 t (by omega))
    rw [u1, u2] at IH
    rw [show d + 1 + (8 - n0 + 1) = d + (8 - n0 + 1) + 1 by omega]
    refine br_f (nI_ge (b := 8) (by omega) (by decide)) ⟨vp_in_nI (by omega) (by decide), nm_r (e' := upd w i 0) (by rw [nI_clamp (by omega)]) (br_t (nI_lt (by omega) (by omega)) ⟨pq_fm d (pq_us n0 k r i).1 (pq_us n0 k r i).2 + 1, ?_⟩)⟩
    have G := py_39 (post := post) (J := wY_unindexTo_9 post (nI n0) y_pktLen y_low y_rng y_cache y_pending y_rpos y_drng y_dcode y_dr (d + (8 - n0 + 1))) (y_pktLen := y_pktLen) (y_low := y_low) (y_rng := y_rng) (y_cache := y_cache) (y_pending := y_pending) (y_rpos := y_rpos) (y_drng := y_drng) (y_dcode := y_dcode) (y_dr := y_dr) (y_kb := y_kb) (y_inp := y_inp) (y_encQ := y_encQ) (y_encP := y_encP) (y_decQ := y_decQ) (y_decP := y_decP) (y_decC := y_decC) (y_pkt := y_pkt) (y_vec := y_vec) (y_work := (upd w i 0)) (y_vt := y_vt) (i := i) (n := d) (k := (pq_us n0 k r i).1) (r := (pq_us n0 k r i).2) ht (by omega) s1 s2 IH (pq_fm d (pq_us n0 k r i).1 (pq_us n0 k r i).2) 0 (by omega)
    rw [e2] at G
    exact G
theorem py_un {post : SY → Prop} {n k r : Nat} {p1 p2 p3 : Int32} (ht : pq_tb y_vt) (hn : n ≤ 8) (hk : k ≤ 16) (hr : r < pq_V n k) (e1 : p1 = nI n) (e2 : p2 = nI k) (e3 : p3 = nI r)
    (K : ∀ w : Nat → Int32, (∀ t, t < n → w t = pq_y n k r t) → (∀ t, n ≤ t → t < 8 → w t = 0) → post (y_pktLen, y_low, y_rng, y_cache, y_pending, y_rpos, y_drng, y_dcode, y_dr, y_kb, y_inp, y_encQ, y_encP, y_decQ, y_decP, y_decC, y_pkt, y_vec, w, y_vt)) : wpY_unindexTo post (y_pktLen, y_low, y_rng, y_cache, y_pending, y_rpos, y_drng, y_dcode, y_dr, y_kb, y_inp, y_encQ, y_encP, y_decQ, y_decP, y_decC, y_pkt, y_vec, y_work, y_vt) p1 p2 p3 := by
  subst e1 e2 e3
  exact ⟨n + (8 - n + 1), py_9 ht hn hk hr K n 0 y_work (by omega) (fun t h => absurd h (Nat.not_lt_zero t))⟩
end PQU
