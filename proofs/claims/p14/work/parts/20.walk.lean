/-! the law, walked -/
def pl_P (P j : Nat) (v : Nat → Int32) : Prop := P < 2 ^ (6 * j) ∧ ∀ t, t < j → nI (P / 2 ^ (6 * t) % 64) = v t + 16
theorem pl_P_s {P j w : Nat} {v v' : Nat → Int32} (h : pl_P P j v) (hw : w < 64) (e : v' j + 16 = nI w) (hv : ∀ t, t < j → v' t = v t) : pl_P (P + w * 2 ^ (6 * j)) (j + 1) v' := by
  obtain ⟨h1, h2⟩ := h
  have pj : 0 < 2 ^ (6 * j) := Nat.two_pow_pos _
  have p6 : 2 ^ (6 * (j + 1)) = 2 ^ (6 * j) * 64 := by rw [Nat.mul_add, Nat.pow_add]
  refine ⟨?_, ?_⟩
  · have m : w * 2 ^ (6 * j) ≤ 63 * 2 ^ (6 * j) := Nat.mul_le_mul_right _ (by omega)
    rw [p6]
    omega
  · intro t ht
    by_cases z : t = j
    · subst z
      rw [Nat.add_mul_div_right _ _ pj, Nat.div_eq_of_lt h1, Nat.zero_add, Nat.mod_eq_of_lt hw, e]
    · have e2 : 2 ^ (6 * j) = 64 * 2 ^ (6 * (j - t - 1)) * 2 ^ (6 * t) := by
        rw [show (64 : Nat) = 2 ^ 6 from rfl, ← Nat.pow_add, ← Nat.pow_add]
        congr 1
        omega
      have e3 : w * 2 ^ (6 * j) = w * 2 ^ (6 * (j - t - 1)) * 64 * 2 ^ (6 * t) := by
        rw [e2, Nat.mul_comm 64, ← Nat.mul_assoc, ← Nat.mul_assoc]
      rw [e3, Nat.add_mul_div_right _ _ (Nat.two_pow_pos _), Nat.add_mul_mod_self_right, h2 t (by omega), hv t (by omega)]
theorem pl_clz {z : Int32} (h : pq_mg z ≤ 16) : pq_cl z (-16) 16 = z := by
  unfold pq_mg at h
  have a : ¬ z < -16 := by
    rw [Int32.lt_iff_toInt_lt, show (-16 : Int32).toInt = -16 by decide]
    omega
  have b : ¬ 16 < z := by
    rw [Int32.lt_iff_toInt_lt, show (16 : Int32).toInt = 16 by decide]
    omega
  unfold pq_cl
  rw [if_neg a, if_neg b]
theorem pl_6 (j : Nat) : 6 * nI j = nI (6 * j) := by rw [show (6 : Int32) = nI 6 from rfl, pk_mul]
theorem pl_unpack {post : Int32 → Prop} {P j : Nat} (hP : P < 2 ^ 48) (hj : j < 8) (h : post (nI (P / 2 ^ (6 * j) % 64) - 16)) : wpL_unpack post () (lN P) (nI j) := by
  have d : P / 2 ^ (6 * j) ≤ P := Nat.div_le_self _ _
  unfold wpL_unpack
  rw [pl_6, wb_shr (by omega) (by omega), show (63 : Int64) = lN (64 - 1) from rfl, g_mask (s := 6) (p := 64) (by decide) (by decide) (by omega), lN_i]
  exact h
theorem pl_pack {post : Int64 → Prop} {P j w : Nat} {z : Int32} (hP : P < 2 ^ (6 * j)) (hj : j < 8) (hw : w < 64) (e : z + 16 = nI w) (h : post (lN (P + w * 2 ^ (6 * j)))) : wpL_pack post () (lN P) (nI j) z := by
  have p : 2 ^ (6 * j) ≤ 2 ^ 42 := Nat.pow_le_pow_right (by decide) (by omega)
  have m : w * 2 ^ (6 * j) ≤ 63 * 2 ^ (6 * j) := Nat.mul_le_mul_right _ (by omega)
  unfold wpL_pack
  rw [pl_6, e, nI_l (by omega), wb_shl w (by omega), g_or' (k := 6 * j) rfl hP (by omega)]
  exact h
def pl_V (j rem k P : Nat) (vec : Nat → Int32) : Prop := k + rem ≤ 16 ∧ (∀ i, i < 8 → pq_mg (vec i) ≤ 16) ∧ pq_S (fun i => pq_mg (vec i)) j = k ∧ pl_P P j vec
section PLB
variable {x_length x_cache x_pending x_readPosition : Int32} {x_low x_encoderRange x_decoderRange x_code x_decoderStep : Int64} {x_pulseCounts x_coefs x_energies x_pulses x_decoded x_vec x_sizes x_packet : Nat → Int32}
variable {le L : Nat} {xs : Nat → Int32} {post : Int32 → Prop} {kc ks t : Nat}
variable {J : Int32 → Int32 → Int64 → Int64 → Int32 → Int32 → Int32 → Int64 → Int64 → Int64 → (Nat → Int32) → (Nat → Int32) → (Nat → Int32) → (Nat → Int32) → (Nat → Int32) → (Nat → Int32) → (Nat → Int32) → (Nat → Int32) → Prop}
theorem pl_334 {n P : Nat} {idx : Int32} (h1 : 1 ≤ n) (hn : n ≤ 8) (ht : pq_tb x_sizes) (hv : ∀ i, i < 8 → pq_mg (x_vec i) ≤ 16) (hi : pq_vi x_vec n = idx) (hP : pl_P P n x_vec) (K : J (nI (t + 11)) x_length x_low x_encoderRange x_cache x_pending x_readPosition x_decoderRange x_code x_decoderStep x_pulseCounts x_coefs x_energies x_pulses x_decoded x_vec x_sizes x_packet) : ∀ d j, j + d = n → wL_law_334 post L xs J (nI t) (nI n) (lN P) idx kc ks x_length x_low x_encoderRange x_cache x_pending x_readPosition x_decoderRange x_code x_decoderStep x_pulseCounts x_coefs x_energies x_pulses x_decoded x_vec x_sizes x_packet (d + 1) (nI j) := by
  have p : 2 ^ (6 * n) ≤ 2 ^ 48 := Nat.pow_le_pow_right (by decide) (by omega)
  intro d
  induction d with
  | zero =>
    intro j hj
    exact br_t (nI_le (by omega) (by omega)) (px_vecIndex h1 hn ht hv (br_t hi (nm_r (nI_add t 11) K)))
  | succ d ih =>
    intro j hj
    have e := hP.2 j (by omega)
    have hPl := hP.1
    refine br_f (nI_ge (by omega) (by omega)) (px_vecAt (by omega) (pl_unpack (by omega) (by omega) (br_t ?_ (nm_r (nI_1 j) (ih (j + 1) (by omega))))))
    rw [e, Int32.add_sub_cancel]
theorem pl_182e {n rem k P : Nat} (h1 : 1 ≤ n) (hn : n ≤ 8) (ht : pq_tb x_sizes) (hV : pl_V n rem k P x_vec) (K : ∀ w : Nat → Int32, (∀ i, i < 8 → pq_mg (w i) ≤ 16) → J (nI (t + 11)) x_length x_low x_encoderRange x_cache x_pending x_readPosition x_decoderRange x_code x_decoderStep x_pulseCounts x_coefs x_energies x_pulses x_decoded w x_sizes x_packet) (f : Nat) : wL_law_182 post L xs J (nI t) (nI n) kc ks (f + 1) (nI rem) (lN P) (nI k) (nI 8) x_length x_low x_encoderRange x_cache x_pending x_readPosition x_decoderRange x_code x_decoderStep x_pulseCounts x_coefs x_energies x_pulses x_decoded x_vec x_sizes x_packet := by
  obtain ⟨v1, v2, v3, v4⟩ := hV
  have hM : pq_M x_vec 0 n = k := by rw [pq_M_0]; exact v3
  have hlt := pq_ix_lt x_vec n 0 k hn (by omega) hM
  have hVl := pq_Vle (n := n) (k := k) hn (by omega)
  have e : pq_vi x_vec n = nI (pq_ix x_vec 0 n k) := by
    unfold pq_vi
    rw [hM, if_pos (by omega)]
  refine br_t (nI_le (a := 8) (Nat.le_refl _) (by decide)) (px_vecIndex h1 hn ht v2 ?_)
  rw [e]
  refine br_f (nI_pos (by omega)) (px_pyr hn (by omega) ht (br_t (nI_lt hlt (by omega)) (px_vecUn h1 hn (by omega) hlt ht ?_)))
  intro w g1 g2
  have gw : ∀ i, i < n → w i = x_vec i := fun i hi => by rw [g1 i hi, pr_y hn (by omega) hM hi]
  have hw : ∀ i, i < 8 → pq_mg (w i) ≤ 16 := by
    intro i hi
    by_cases z : i < n
    · rw [gw i z]; exact v2 i hi
    · rw [g2 i (by omega) hi]; decide
  refine br_f (by decide) ⟨n + 1, pl_334 h1 hn ht hw ?_ ?_ (K w hw) n 0 (by omega)⟩
  · rw [pq_vi_ext gw, e]
  · exact ⟨v4.1, fun i hi => by rw [v4.2 i hi, gw i hi]⟩
theorem pl_182b {n rem k P : Nat} (hL : L ≤ 260) (ht0 : t ≤ 300) (h1 : 1 ≤ n) (hn : n ≤ 8) (ht : pq_tb x_sizes) (K : ∀ w : Nat → Int32, (∀ i, i < 8 → pq_mg (w i) ≤ 16) → J (nI (t + 11)) x_length x_low x_encoderRange x_cache x_pending x_readPosition x_decoderRange x_code x_decoderStep x_pulseCounts x_coefs x_energies x_pulses x_decoded w x_sizes x_packet) : ∀ d j (vec : Nat → Int32), j + d = 8 → n ≤ j → pl_V n rem k P vec → wL_law_182 post L xs J (nI t) (nI n) kc ks (d + 1) (nI rem) (lN P) (nI k) (nI j) x_length x_low x_encoderRange x_cache x_pending x_readPosition x_decoderRange x_code x_decoderStep x_pulseCounts x_coefs x_energies x_pulses x_decoded vec x_sizes x_packet := by
  intro d
  induction d with
  | zero =>
    intro j vec hj hnj hV
    have e : j = 8 := by omega
    subst e
    exact pl_182e h1 hn ht hV K 0
  | succ d ih =>
    intro j vec hj hnj hV
    refine br_f (nI_ge (b := 8) (by omega) (by decide)) (pl_cell (j := t + 3 + j) hL ?_ (by omega) ?_)
    · rw [show (3 : Int32) = nI 3 from rfl, nI_add, nI_add]
    · intro r
      refine br_t (nI_le hnj (by omega)) (px_setVec rfl (by omega) (nm_r (nI_1 j) (ih (j + 1) _ (by omega) (by omega) ?_)))
      obtain ⟨v1, v2, v3, v4⟩ := hV
      refine ⟨v1, ?_, ?_, v4.1, ?_⟩
      · intro i hi
        by_cases z : i = j
        · subst z; rw [pk_us]; exact pq_cl_m r (c := 16) (C := 16) (by decide) rfl
        · rw [pk_un z]; exact v2 i hi
      · rw [← v3]
        exact pq_S_ext n (fun i hi => by rw [pk_un (by omega)])
      · intro i hi
        rw [pk_un (by omega)]
        exact v4.2 i hi
theorem pl_241 {n rem k P j m w : Nat} {z : Int32} {J2 : Int32 → Int64 → Int32 → Int32 → Int32 → Int64 → Int64 → Int32 → Int32 → Int32 → Int64 → Int64 → Int64 → (Nat → Int32) → (Nat → Int32) → (Nat → Int32) → (Nat → Int32) → (Nat → Int32) → (Nat → Int32) → (Nat → Int32) → (Nat → Int32) → Prop} (hj : j < 8) (hm : pq_mg z = m) (hm2 : m ≤ rem) (hw : w < 64) (e : z + 16 = nI w) (hV : pl_V j rem k P x_vec)
    (K : ∀ vec : Nat → Int32, pl_V (j + 1) (rem - m) (k + m) (P + w * 2 ^ (6 * j)) vec → J2 (nI (rem - m)) (lN (P + w * 2 ^ (6 * j))) (nI (k + m)) (nI (j + 1)) x_length x_low x_encoderRange x_cache x_pending x_readPosition x_decoderRange x_code x_decoderStep x_pulseCounts x_coefs x_energies x_pulses x_decoded vec x_sizes x_packet) :
    wL_law_241 post L xs J J2 (nI t) (nI n) (nI (rem - m)) (lN P) (nI k) (nI j) (nI m) z kc ks x_length x_low x_encoderRange x_cache x_pending x_readPosition x_decoderRange x_code x_decoderStep x_pulseCounts x_coefs x_energies x_pulses x_decoded x_vec x_sizes x_packet := by
  obtain ⟨v1, v2, v3, v4⟩ := hV
  refine nm_r (nI_add k m) (px_setVec rfl hj (pl_pack v4.1 hj hw e (nm_r (nI_1 j) (K _ ?_))))
  rw [pl_clz (by omega)]
  refine ⟨by omega, ?_, ?_, pl_P_s v4 hw (by rw [pk_us]; exact e) (fun i hi => by rw [pk_un (by omega)])⟩
  · intro i hi
    by_cases y : i = j
    · subst y; rw [pk_us]; omega
    · rw [pk_un y]; exact v2 i hi
  · show pq_S (fun i => pq_mg (upd x_vec j z i)) j + pq_mg (upd x_vec j z j) = k + m
    rw [pk_us, hm, ← v3]
    congr 1
    exact pq_S_ext j (fun i hi => by rw [pk_un (by omega)])
theorem pl_182a {n : Nat} (hL : L ≤ 260) (ht0 : t ≤ 300) (h1 : 1 ≤ n) (hn : n ≤ 8) (ht : pq_tb x_sizes) (K : ∀ w : Nat → Int32, (∀ i, i < 8 → pq_mg (w i) ≤ 16) → J (nI (t + 11)) x_length x_low x_encoderRange x_cache x_pending x_readPosition x_decoderRange x_code x_decoderStep x_pulseCounts x_coefs x_energies x_pulses x_decoded w x_sizes x_packet) : ∀ d j rem k P (vec : Nat → Int32), j + d = n → pl_V j rem k P vec → wL_law_182 post L xs J (nI t) (nI n) kc ks (d + (8 - n + 1)) (nI rem) (lN P) (nI k) (nI j) x_length x_low x_encoderRange x_cache x_pending x_readPosition x_decoderRange x_code x_decoderStep x_pulseCounts x_coefs x_energies x_pulses x_decoded vec x_sizes x_packet := by
  intro d
  induction d with
  | zero =>
    intro j rem k P vec hj hV
    have e : j = n := by omega
    subst e
    rw [Nat.zero_add]
    exact pl_182b hL ht0 h1 hn ht K (8 - j) j vec (by omega) (Nat.le_refl _) hV
  | succ d ih =>
    intro j rem k P vec hj hV
    have v1 := hV.1
    rw [show d + 1 + (8 - n + 1) = d + (8 - n + 1) + 1 by omega]
    refine br_f (nI_ge (b := 8) (by omega) (by decide)) (pl_cell (j := t + 3 + j) hL ?_ (by omega) ?_)
    · rw [show (3 : Int32) = nI 3 from rfl, nI_add, nI_add]
    · intro r
      obtain ⟨N, hN, rfl⟩ := wb_of32 r
      have e1 : ((nI N).toUInt32 >>> ((1 : Int32).toUInt32 &&& Int32.toUInt32 31)).toInt32 = nI (N / 2 ^ 1) := pk_ushrN hN 1 1 (by decide)
      have hm : N / 2 ^ 1 % (rem + 1) < rem + 1 := Nat.mod_lt _ (by omega)
      refine br_f (nI_ge (by omega) (by omega)) ⟨?_, nm_r (e' := nI (N / 2 ^ 1 % (rem + 1))) ?_ (nm_r (e' := nI (rem - N / 2 ^ 1 % (rem + 1))) (pk_sub (by omega)) ?_)⟩
      · rw [nI_1]; exact nI_ne0 (by omega) (by omega)
      · rw [e1, nI_1]
        exact pk_rem (by omega) (by omega) (by omega)
      · generalize N / 2 ^ 1 % (rem + 1) = m at *
        by_cases z : (nI N &&& 1) = 0
        · refine br_t z (pl_241 (w := m + 16) (by omega) (pq_mg_nI (by omega)) (by omega) (by omega) (nI_add m 16) hV ?_)
          intro vec' hV'
          exact ih (j + 1) _ _ _ vec' (by omega) hV'
        · refine br_f z (pl_241 (w := 16 - m) (by omega) (pq_mg_neg (by omega)) (by omega) (by omega) ?_ hV ?_)
          · rw [← pk_sub (show m ≤ 16 by omega), Int32.add_comm, ← Int32.sub_eq_add_neg]
            rfl
          · intro vec' hV'
            exact ih (j + 1) _ _ _ vec' (by omega) hV'
theorem pl_94 {b : Nat} {sh : Int32} (hL : L ≤ 260) (ht0 : t ≤ 300) (hb : b < 4) (K : ∀ co : Nat → Int32, pq_HC co → J (nI (t + 11)) x_length x_low x_encoderRange x_cache x_pending x_readPosition x_decoderRange x_code x_decoderStep x_pulseCounts co x_energies x_pulses x_decoded x_vec x_sizes x_packet) : ∀ d i (co : Nat → Int32), i + d = 8 → pq_HC co → wL_law_94 post L xs J (nI t) (nI b) sh kc ks (d + 1) (nI i) x_length x_low x_encoderRange x_cache x_pending x_readPosition x_decoderRange x_code x_decoderStep x_pulseCounts co x_energies x_pulses x_decoded x_vec x_sizes x_packet := by
  intro d
  induction d with
  | zero =>
    intro i co hi hc
    have e : i = 8 := by omega
    subst e
    exact br_t (nI_le (a := 8) (Nat.le_refl _) (by decide)) (nm_r (nI_add t 11) (K co hc))
  | succ d ih =>
    intro i co hi hc
    refine br_f (nI_ge (b := 8) (by omega) (by decide)) (pl_cell (j := t + 3 + i) hL ?_ (by omega) ?_)
    · rw [show (3 : Int32) = nI 3 from rfl, nI_add, nI_add]
    · intro r
      refine px_setCoef (pq_8i b i) (by omega) (nm_r (nI_1 i) (ih (i + 1) _ (by omega) ?_))
      intro j hj
      by_cases z : j = 8 * b + i
      · rw [z, pk_us]; exact pq_cl_m _ (c := 32767) (C := 32767) (by decide) rfl
      · rw [pk_un z]; exact hc j hj
end PLB
