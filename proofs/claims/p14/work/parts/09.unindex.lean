/-! an index taken apart -/
theorem pq_cn_le {n k m : Nat} (hn : n ≤ 8) (hk : k ≤ 16) : (if m = 0 then 1 else 2) * pq_V n (k - m) ≤ 30316544 := by
  have := pq_Vle (n := n) (k := k - m) hn (by omega)
  split <;> omega
section PQU
variable {x_length x_cache x_pending x_readPosition : Int32} {x_low x_encoderRange x_decoderRange x_code x_decoderStep : Int64} {x_pulseCounts x_coefs x_energies x_pulses x_decoded x_vec x_sizes x_packet : Nat → Int32}
theorem px_pulses74 {post : St2 → Prop} {J : Int32 → Int32 → Int32 → (Nat → Int32) → (Nat → Int32) → (Nat → Int32) → (Nat → Int32) → (Nat → Int32) → (Nat → Int32) → (Nat → Int32) → (Nat → Int32) → Prop} {fr i n k r : Nat} (ht : pq_tb x_sizes) (hn : i + n < 8) (hf : fr + i < 64) (hk : k ≤ 16) (hr : r < pq_V (n + 1) k)
    (h : J (nI (pq_ur n k r)) (nI (k - pq_fm n k r)) (nI (i + 1)) x_pulseCounts x_coefs x_energies (upd x_pulses (fr + i) (pq_uy n k r)) x_decoded x_vec x_sizes x_packet) :
    wX_unindex_74 post J (nI fr) (nI (i + n + 1)) (nI (r - pq_W n k (pq_fm n k r))) (nI k) (nI i) (nI (pq_fm n k r)) x_length x_low x_encoderRange x_cache x_pending x_readPosition x_decoderRange x_code x_decoderStep x_pulseCounts x_coefs x_energies x_pulses x_decoded x_vec x_sizes x_packet := by
  have ⟨f1, f2, f3⟩ := pq_fm_s (by omega) hk hr
  have hV := pq_Vle (n := n) (k := k - pq_fm n k r) (by omega) (by omega)
  have hR := pq_Vle (n := n + 1) (k := k) (by omega) hk
  refine nm_r (pk_sub f3) (px_size (n := n) (k := k - pq_fm n k r) ht (by omega) (by omega) ?_ rfl ?_)
  · rw [pk_sub (by omega), show i + n + 1 - i = n + 1 by omega, nI_pred]
  · by_cases g : pq_ng n k r
    · rw [pq_ur_n g, pq_uy_n g] at h
      obtain ⟨g1, g2⟩ := g
      refine br_f (nI_nle g1 (by omega)) (br_f (nI_nlt g2 (by omega)) (br_f (by decide) (nm_r (pk_sub g2) ?_)))
      exact br_f (by decide) ⟨pk_in (fr + i) 64 hf (nI_add fr i), nm_r (e' := upd x_pulses (fr + i) (-nI (pq_fm n k r))) (by rw [nI_add, nI_clamp (by omega)]) (nm_r (nI_1 i) h)⟩
    · rw [pq_ur_p g, pq_uy_p g] at h
      have K : wX_unindex_111 post J (nI fr) (nI (i + n + 1)) (nI (r - pq_W n k (pq_fm n k r))) (nI (k - pq_fm n k r)) (nI i) (nI (pq_fm n k r)) (nI (pq_V n (k - pq_fm n k r))) x_length x_low x_encoderRange x_cache x_pending x_readPosition x_decoderRange x_code x_decoderStep x_pulseCounts x_coefs x_energies x_pulses x_decoded x_vec x_sizes x_packet :=
        br_t rfl (br_t rfl ⟨pk_in (fr + i) 64 hf (nI_add fr i), nm_r (e' := upd x_pulses (fr + i) (nI (pq_fm n k r))) (by rw [nI_add, nI_clamp (by omega)]) (nm_r (nI_1 i) h)⟩)
      by_cases z : pq_fm n k r = 0
      · exact br_t (by rw [z]; decide) K
      · have g2 : r - pq_W n k (pq_fm n k r) < pq_V n (k - pq_fm n k r) := by
          have : ¬ pq_V n (k - pq_fm n k r) ≤ r - pq_W n k (pq_fm n k r) := fun y => g ⟨by omega, y⟩
          omega
        exact br_f (nI_nle (by omega) (by omega)) (br_t (nI_lt g2 (by omega)) K)
theorem px_pulses33 {post : St2 → Prop} {J : Int32 → Int32 → Int32 → (Nat → Int32) → (Nat → Int32) → (Nat → Int32) → (Nat → Int32) → (Nat → Int32) → (Nat → Int32) → (Nat → Int32) → (Nat → Int32) → Prop} {fr i n k r : Nat} (ht : pq_tb x_sizes) (hn : i + n < 8) (hf : fr + i < 64) (hk : k ≤ 16) (hr : r < pq_V (n + 1) k)
    (h : J (nI (pq_ur n k r)) (nI (k - pq_fm n k r)) (nI (i + 1)) x_pulseCounts x_coefs x_energies (upd x_pulses (fr + i) (pq_uy n k r)) x_decoded x_vec x_sizes x_packet) : ∀ d m, m + d = pq_fm n k r →
    wX_unindex_33 post J (nI fr) (nI (i + n + 1)) (nI k) (nI i) x_length x_low x_encoderRange x_cache x_pending x_readPosition x_decoderRange x_code x_decoderStep x_pulseCounts x_coefs x_energies x_pulses x_decoded x_vec x_sizes x_packet (d + 1) (nI (r - pq_W n k m)) (nI m) (nI ((if m = 0 then 1 else 2) * pq_V n (k - m))) := by
  have ⟨f1, f2, f3⟩ := pq_fm_s (n := n) (by omega) hk hr
  have hR := pq_Vle (n := n + 1) (k := k) (by omega) hk
  intro d
  induction d with
  | zero =>
    intro m hm
    have e : m = pq_fm n k r := by omega
    have hc := pq_cn_le (n := n) (k := k) (m := m) (by omega) hk
    have h6 : pq_W n k (m + 1) = pq_W n k m + (if m = 0 then 1 else 2) * pq_V n (k - m) := rfl
    have K := px_pulses74 (post := post) (J := J) (x_length := x_length) (x_low := x_low) (x_encoderRange := x_encoderRange) (x_cache := x_cache) (x_pending := x_pending) (x_readPosition := x_readPosition) (x_decoderRange := x_decoderRange) (x_code := x_code) (x_decoderStep := x_decoderStep) (x_pulseCounts := x_pulseCounts) (x_coefs := x_coefs) (x_energies := x_energies) (x_pulses := x_pulses) (x_decoded := x_decoded) (x_vec := x_vec) (x_sizes := x_sizes) (x_packet := x_packet) ht hn hf hk hr h
    rw [← e] at K f1 f2
    by_cases c : k ≤ m
    · exact br_t (nI_le c (by omega)) K
    · exact br_f (nI_ge (by omega) (by omega)) (br_t (nI_lt (by omega) (by omega)) K)
  | succ d ih =>
    intro m hm
    have hc := pq_cn_le (n := n) (k := k) (m := m) (by omega) hk
    have h6 : pq_W n k (m + 1) = pq_W n k m + (if m = 0 then 1 else 2) * pq_V n (k - m) := rfl
    have h7 : pq_W n k (m + 1) ≤ pq_W n k (pq_fm n k r) := pq_W_mono n k (by omega)
    refine br_f (nI_ge (by omega) (by omega)) (br_f (nI_nlt (by omega) (by omega)) (nm_r (e' := nI (r - pq_W n k (m + 1))) ?_ (nm_r (nI_1 m) (px_cwf (m := m + 1) (n := n) (k := k) ht (by omega) (by omega) hk rfl ?_ rfl ?_))))
    · rw [pk_sub (by omega)]
      congr 1
      omega
    · rw [pk_sub (by omega), show i + n + 1 - i = n + 1 by omega]
    · exact ih (m + 1) (by omega)
theorem px_pulses11 {post : St2 → Prop} {fr n0 k r : Nat} (ht : pq_tb x_sizes) (hn : n0 ≤ 8) (hf : fr + n0 ≤ 64) (hk : k ≤ 16) (hr : r < pq_V n0 k)
    (K : ∀ c' : Nat → Int32, (∀ t, t < n0 → c' (fr + t) = pq_y n0 k r t) → (∀ j, (j < fr ∨ fr + n0 ≤ j) → c' j = x_pulses j) → post (x_length, x_low, x_encoderRange, x_cache, x_pending, x_readPosition, x_decoderRange, x_code, x_decoderStep, x_pulseCounts, x_coefs, x_energies, c', x_decoded, x_vec, x_sizes, x_packet)) : ∀ d i (c' : Nat → Int32), i + d = n0 → (∀ t, t < i → c' (fr + t) = pq_y n0 k r t) → (∀ j, (j < fr ∨ fr + n0 ≤ j) → c' j = x_pulses j) →
    wX_unindex_11 post (nI fr) (nI n0) x_length x_low x_encoderRange x_cache x_pending x_readPosition x_decoderRange x_code x_decoderStep (d + 1) (nI (pq_us n0 k r i).2) (nI (pq_us n0 k r i).1) (nI i) x_pulseCounts x_coefs x_energies c' x_decoded x_vec x_sizes x_packet := by
  intro d
  induction d with
  | zero =>
    intro i c' hi h1 h2
    have e : i = n0 := by omega
    subst e
    exact br_t (nI_le (Nat.le_refl _) (by omega)) (K c' h1 h2)
  | succ d ih =>
    intro i c' hi h1 h2
    have e : n0 - i - 1 = d := by omega
    have e2 : i + d + 1 = n0 := by omega
    have ⟨s1, s2⟩ := pq_us_s hn hk hr i (by omega)
    rw [show n0 - i = d + 1 by omega] at s2
    have u1 : (pq_us n0 k r (i + 1)).1 = (pq_us n0 k r i).1 - pq_fm d (pq_us n0 k r i).1 (pq_us n0 k r i).2 := by
      show (pq_us n0 k r i).1 - pq_fm (n0 - i - 1) (pq_us n0 k r i).1 (pq_us n0 k r i).2 = _
      rw [e]
    have u2 : (pq_us n0 k r (i + 1)).2 = pq_ur d (pq_us n0 k r i).1 (pq_us n0 k r i).2 := by
      show pq_ur (n0 - i - 1) (pq_us n0 k r i).1 (pq_us n0 k r i).2 = _
      rw [e]
    have u3 : pq_y n0 k r i = pq_uy d (pq_us n0 k r i).1 (pq_us n0 k r i).2 := by
      show pq_uy (n0 - i - 1) (pq_us n0 k r i).1 (pq_us n0 k r i).2 = _
      rw [e]
    have IH := ih (i + 1) (upd c' (fr + i) (pq_uy d (pq_us n0 k r i).1 (pq_us n0 k r i).2)) (by omega) (by
      intro t ht2
      by_cases z : t = i
      · subst z; rw [pk_us, u3]
      · rw [pk_un (by omega)]; exact h1 t (by omega)) (by
      intro j hj
      rw [pk_un (by omega)]
      exact h2 j hj)
    rw [u1, u2] at IH
    refine br_f (nI_ge (by omega) (by omega)) (px_cwf (m := 0) (n := d) (k := (pq_us n0 k r i).1) ht (by omega) (by omega) s1 rfl ?_ rfl ⟨pq_fm d (pq_us n0 k r i).1 (pq_us n0 k r i).2 + 1, ?_⟩)
    · rw [pk_sub (by omega)]
      congr 1
      omega
    · have G := px_pulses33 (post := post) (J := wX_unindex_11 post (nI fr) (nI n0) x_length x_low x_encoderRange x_cache x_pending x_readPosition x_decoderRange x_code x_decoderStep (d + 1)) (x_length := x_length) (x_low := x_low) (x_encoderRange := x_encoderRange) (x_cache := x_cache) (x_pending := x_pending) (x_readPosition := x_readPosition) (x_decoderRange := x_decoderRange) (x_code := x_code) (x_decoderStep := x_decoderStep) (x_pulseCounts := x_pulseCounts) (x_coefs := x_coefs) (x_energies := x_energies) (x_pulses := c') (x_decoded := x_decoded) (x_vec := x_vec) (x_sizes := x_sizes) (x_packet := x_packet) (fr := fr) (i := i) (n := d) (k := (pq_us n0 k r i).1) (r := (pq_us n0 k r i).2) ht (by omega) (by omega) s1 s2 IH (pq_fm d (pq_us n0 k r i).1 (pq_us n0 k r i).2) 0 (by omega)
      rw [e2] at G
      exact G
theorem px_pulsesun {post : St2 → Prop} {fr n k r : Nat} {p1 p2 p3 p4 : Int32} (ht : pq_tb x_sizes) (hn : n ≤ 8) (hf : fr + n ≤ 64) (hk : k ≤ 16) (hr : r < pq_V n k) (e1 : p1 = nI fr) (e2 : p2 = nI n) (e3 : p3 = nI k) (e4 : p4 = nI r)
    (K : ∀ c' : Nat → Int32, (∀ t, t < n → c' (fr + t) = pq_y n k r t) → (∀ j, (j < fr ∨ fr + n ≤ j) → c' j = x_pulses j) → post (x_length, x_low, x_encoderRange, x_cache, x_pending, x_readPosition, x_decoderRange, x_code, x_decoderStep, x_pulseCounts, x_coefs, x_energies, c', x_decoded, x_vec, x_sizes, x_packet)) : wpX_unindex post (x_length, x_low, x_encoderRange, x_cache, x_pending, x_readPosition, x_decoderRange, x_code, x_decoderStep, x_pulseCounts, x_coefs, x_energies, x_pulses, x_decoded, x_vec, x_sizes, x_packet) p1 p2 p3 p4 := by
  subst e1 e2 e3 e4
  exact ⟨n + 1, px_pulses11 ht hn hf hk hr K n 0 x_pulses (by omega) (fun t h => absurd h (Nat.not_lt_zero t)) (fun _ _ => rfl)⟩
theorem px_vec74 {post : St2 → Prop} {J : Int32 → Int32 → Int32 → (Nat → Int32) → (Nat → Int32) → (Nat → Int32) → (Nat → Int32) → (Nat → Int32) → (Nat → Int32) → (Nat → Int32) → (Nat → Int32) → Prop} {fr i n k r : Nat} (ht : pq_tb x_sizes) (hn : i + n < 8) (hf : fr + i < 8) (hk : k ≤ 16) (hr : r < pq_V (n + 1) k)
    (h : J (nI (pq_ur n k r)) (nI (k - pq_fm n k r)) (nI (i + 1)) x_pulseCounts x_coefs x_energies x_pulses x_decoded (upd x_vec (fr + i) (pq_uy n k r)) x_sizes x_packet) :
    wX_unindex_2_74 post J (nI fr) (nI (i + n + 1)) (nI (r - pq_W n k (pq_fm n k r))) (nI k) (nI i) (nI (pq_fm n k r)) x_length x_low x_encoderRange x_cache x_pending x_readPosition x_decoderRange x_code x_decoderStep x_pulseCounts x_coefs x_energies x_pulses x_decoded x_vec x_sizes x_packet := by
  have ⟨f1, f2, f3⟩ := pq_fm_s (by omega) hk hr
  have hV := pq_Vle (n := n) (k := k - pq_fm n k r) (by omega) (by omega)
  have hR := pq_Vle (n := n + 1) (k := k) (by omega) hk
  refine nm_r (pk_sub f3) (px_size (n := n) (k := k - pq_fm n k r) ht (by omega) (by omega) ?_ rfl ?_)
  · rw [pk_sub (by omega), show i + n + 1 - i = n + 1 by omega, nI_pred]
  · by_cases g : pq_ng n k r
    · rw [pq_ur_n g, pq_uy_n g] at h
      obtain ⟨g1, g2⟩ := g
      refine br_f (nI_nle g1 (by omega)) (br_f (nI_nlt g2 (by omega)) (br_f (by decide) (nm_r (pk_sub g2) ?_)))
      exact br_f (by decide) ⟨pk_in (fr + i) 8 hf (nI_add fr i), nm_r (e' := upd x_vec (fr + i) (-nI (pq_fm n k r))) (by rw [nI_add, nI_clamp (by omega)]) (nm_r (nI_1 i) h)⟩
    · rw [pq_ur_p g, pq_uy_p g] at h
      have K : wX_unindex_2_111 post J (nI fr) (nI (i + n + 1)) (nI (r - pq_W n k (pq_fm n k r))) (nI (k - pq_fm n k r)) (nI i) (nI (pq_fm n k r)) (nI (pq_V n (k - pq_fm n k r))) x_length x_low x_encoderRange x_cache x_pending x_readPosition x_decoderRange x_code x_decoderStep x_pulseCounts x_coefs x_energies x_pulses x_decoded x_vec x_sizes x_packet :=
        br_t rfl (br_t rfl ⟨pk_in (fr + i) 8 hf (nI_add fr i), nm_r (e' := upd x_vec (fr + i) (nI (pq_fm n k r))) (by rw [nI_add, nI_clamp (by omega)]) (nm_r (nI_1 i) h)⟩)
      by_cases z : pq_fm n k r = 0
      · exact br_t (by rw [z]; decide) K
      · have g2 : r - pq_W n k (pq_fm n k r) < pq_V n (k - pq_fm n k r) := by
          have : ¬ pq_V n (k - pq_fm n k r) ≤ r - pq_W n k (pq_fm n k r) := fun y => g ⟨by omega, y⟩
          omega
        exact br_f (nI_nle (by omega) (by omega)) (br_t (nI_lt g2 (by omega)) K)
theorem px_vec33 {post : St2 → Prop} {J : Int32 → Int32 → Int32 → (Nat → Int32) → (Nat → Int32) → (Nat → Int32) → (Nat → Int32) → (Nat → Int32) → (Nat → Int32) → (Nat → Int32) → (Nat → Int32) → Prop} {fr i n k r : Nat} (ht : pq_tb x_sizes) (hn : i + n < 8) (hf : fr + i < 8) (hk : k ≤ 16) (hr : r < pq_V (n + 1) k)
    (h : J (nI (pq_ur n k r)) (nI (k - pq_fm n k r)) (nI (i + 1)) x_pulseCounts x_coefs x_energies x_pulses x_decoded (upd x_vec (fr + i) (pq_uy n k r)) x_sizes x_packet) : ∀ d m, m + d = pq_fm n k r →
    wX_unindex_2_33 post J (nI fr) (nI (i + n + 1)) (nI k) (nI i) x_length x_low x_encoderRange x_cache x_pending x_readPosition x_decoderRange x_code x_decoderStep x_pulseCounts x_coefs x_energies x_pulses x_decoded x_vec x_sizes x_packet (d + 1) (nI (r - pq_W n k m)) (nI m) (nI ((if m = 0 then 1 else 2) * pq_V n (k - m))) := by
  have ⟨f1, f2, f3⟩ := pq_fm_s (n := n) (by omega) hk hr
  have hR := pq_Vle (n := n + 1) (k := k) (by omega) hk
  intro d
  induction d with
  | zero =>
    intro m hm
    have e : m = pq_fm n k r := by omega
    have hc := pq_cn_le (n := n) (k := k) (m := m) (by omega) hk
    have h6 : pq_W n k (m + 1) = pq_W n k m + (if m = 0 then 1 else 2) * pq_V n (k - m) := rfl
    have K := px_vec74 (post := post) (J := J) (x_length := x_length) (x_low := x_low) (x_encoderRange := x_encoderRange) (x_cache := x_cache) (x_pending := x_pending) (x_readPosition := x_readPosition) (x_decoderRange := x_decoderRange) (x_code := x_code) (x_decoderStep := x_decoderStep) (x_pulseCounts := x_pulseCounts) (x_coefs := x_coefs) (x_energies := x_energies) (x_pulses := x_pulses) (x_decoded := x_decoded) (x_vec := x_vec) (x_sizes := x_sizes) (x_packet := x_packet) ht hn hf hk hr h
    rw [← e] at K f1 f2
    by_cases c : k ≤ m
    · exact br_t (nI_le c (by omega)) K
    · exact br_f (nI_ge (by omega) (by omega)) (br_t (nI_lt (by omega) (by omega)) K)
  | succ d ih =>
    intro m hm
    have hc := pq_cn_le (n := n) (k := k) (m := m) (by omega) hk
    have h6 : pq_W n k (m + 1) = pq_W n k m + (if m = 0 then 1 else 2) * pq_V n (k - m) := rfl
    have h7 : pq_W n k (m + 1) ≤ pq_W n k (pq_fm n k r) := pq_W_mono n k (by omega)
    refine br_f (nI_ge (by omega) (by omega)) (br_f (nI_nlt (by omega) (by omega)) (nm_r (e' := nI (r - pq_W n k (m + 1))) ?_ (nm_r (nI_1 m) (px_cwf (m := m + 1) (n := n) (k := k) ht (by omega) (by omega) hk rfl ?_ rfl ?_))))
    · rw [pk_sub (by omega)]
      congr 1
      omega
    · rw [pk_sub (by omega), show i + n + 1 - i = n + 1 by omega]
    · exact ih (m + 1) (by omega)
theorem px_vec11 {post : St2 → Prop} {fr n0 k r : Nat} (ht : pq_tb x_sizes) (hn : n0 ≤ 8) (hf : fr + n0 ≤ 8) (hk : k ≤ 16) (hr : r < pq_V n0 k)
    (K : ∀ c' : Nat → Int32, (∀ t, t < n0 → c' (fr + t) = pq_y n0 k r t) → (∀ j, (j < fr ∨ fr + n0 ≤ j) → c' j = x_vec j) → post (x_length, x_low, x_encoderRange, x_cache, x_pending, x_readPosition, x_decoderRange, x_code, x_decoderStep, x_pulseCounts, x_coefs, x_energies, x_pulses, x_decoded, c', x_sizes, x_packet)) : ∀ d i (c' : Nat → Int32), i + d = n0 → (∀ t, t < i → c' (fr + t) = pq_y n0 k r t) → (∀ j, (j < fr ∨ fr + n0 ≤ j) → c' j = x_vec j) →
    wX_unindex_2_11 post (nI fr) (nI n0) x_length x_low x_encoderRange x_cache x_pending x_readPosition x_decoderRange x_code x_decoderStep (d + 1) (nI (pq_us n0 k r i).2) (nI (pq_us n0 k r i).1) (nI i) x_pulseCounts x_coefs x_energies x_pulses x_decoded c' x_sizes x_packet := by
  intro d
  induction d with
  | zero =>
    intro i c' hi h1 h2
    have e : i = n0 := by omega
    subst e
    exact br_t (nI_le (Nat.le_refl _) (by omega)) (K c' h1 h2)
  | succ d ih =>
    intro i c' hi h1 h2
    have e : n0 - i - 1 = d := by omega
    have e2 : i + d + 1 = n0 := by omega
    have ⟨s1, s2⟩ := pq_us_s hn hk hr i (by omega)
    rw [show n0 - i = d + 1 by omega] at s2
    have u1 : (pq_us n0 k r (i + 1)).1 = (pq_us n0 k r i).1 - pq_fm d (pq_us n0 k r i).1 (pq_us n0 k r i).2 := by
      show (pq_us n0 k r i).1 - pq_fm (n0 - i - 1) (pq_us n0 k r i).1 (pq_us n0 k r i).2 = _
      rw [e]
    have u2 : (pq_us n0 k r (i + 1)).2 = pq_ur d (pq_us n0 k r i).1 (pq_us n0 k r i).2 := by
      show pq_ur (n0 - i - 1) (pq_us n0 k r i).1 (pq_us n0 k r i).2 = _
      rw [e]
    have u3 : pq_y n0 k r i = pq_uy d (pq_us n0 k r i).1 (pq_us n0 k r i).2 := by
      show pq_uy (n0 - i - 1) (pq_us n0 k r i).1 (pq_us n0 k r i).2 = _
      rw [e]
    have IH := ih (i + 1) (upd c' (fr + i) (pq_uy d (pq_us n0 k r i).1 (pq_us n0 k r i).2)) (by omega) (by
      intro t ht2
      by_cases z : t = i
      · subst z; rw [pk_us, u3]
      · rw [pk_un (by omega)]; exact h1 t (by omega)) (by
      intro j hj
      rw [pk_un (by omega)]
      exact h2 j hj)
    rw [u1, u2] at IH
    refine br_f (nI_ge (by omega) (by omega)) (px_cwf (m := 0) (n := d) (k := (pq_us n0 k r i).1) ht (by omega) (by omega) s1 rfl ?_ rfl ⟨pq_fm d (pq_us n0 k r i).1 (pq_us n0 k r i).2 + 1, ?_⟩)
    · rw [pk_sub (by omega)]
      congr 1
      omega
    · have G := px_vec33 (post := post) (J := wX_unindex_2_11 post (nI fr) (nI n0) x_length x_low x_encoderRange x_cache x_pending x_readPosition x_decoderRange x_code x_decoderStep (d + 1)) (x_length := x_length) (x_low := x_low) (x_encoderRange := x_encoderRange) (x_cache := x_cache) (x_pending := x_pending) (x_readPosition := x_readPosition) (x_decoderRange := x_decoderRange) (x_code := x_code) (x_decoderStep := x_decoderStep) (x_pulseCounts := x_pulseCounts) (x_coefs := x_coefs) (x_energies := x_energies) (x_pulses := x_pulses) (x_decoded := x_decoded) (x_vec := c') (x_sizes := x_sizes) (x_packet := x_packet) (fr := fr) (i := i) (n := d) (k := (pq_us n0 k r i).1) (r := (pq_us n0 k r i).2) ht (by omega) (by omega) s1 s2 IH (pq_fm d (pq_us n0 k r i).1 (pq_us n0 k r i).2) 0 (by omega)
      rw [e2] at G
      exact G
theorem px_vecun {post : St2 → Prop} {fr n k r : Nat} {p1 p2 p3 p4 : Int32} (ht : pq_tb x_sizes) (hn : n ≤ 8) (hf : fr + n ≤ 8) (hk : k ≤ 16) (hr : r < pq_V n k) (e1 : p1 = nI fr) (e2 : p2 = nI n) (e3 : p3 = nI k) (e4 : p4 = nI r)
    (K : ∀ c' : Nat → Int32, (∀ t, t < n → c' (fr + t) = pq_y n k r t) → (∀ j, (j < fr ∨ fr + n ≤ j) → c' j = x_vec j) → post (x_length, x_low, x_encoderRange, x_cache, x_pending, x_readPosition, x_decoderRange, x_code, x_decoderStep, x_pulseCounts, x_coefs, x_energies, x_pulses, x_decoded, c', x_sizes, x_packet)) : wpX_unindex_2 post (x_length, x_low, x_encoderRange, x_cache, x_pending, x_readPosition, x_decoderRange, x_code, x_decoderStep, x_pulseCounts, x_coefs, x_energies, x_pulses, x_decoded, x_vec, x_sizes, x_packet) p1 p2 p3 p4 := by
  subst e1 e2 e3 e4
  exact ⟨n + 1, px_vec11 ht hn hf hk hr K n 0 x_vec (by omega) (fun t h => absurd h (Nat.not_lt_zero t)) (fun _ _ => rfl)⟩
end PQU
