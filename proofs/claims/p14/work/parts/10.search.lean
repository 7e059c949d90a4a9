/-! the search of the pulses, walked -/
theorem pq_absL {P : Int64 → Prop} {x : Int32} (h : P (lN (pq_mg x))) : (0 ≤ x.toInt64 → P x.toInt64) ∧ (¬ 0 ≤ x.toInt64 → ∀ y, y = -x.toInt64 → P y) := by
  by_cases c : x < 0
  · refine br_f (Int64.not_le.mpr (pq_L_lt.mpr c)) (nm_r (pq_L_n c) h)
  · refine br_t (Int64.not_lt.mp (fun z => c (pq_L_lt.mp z))) ?_
    rw [pq_L_p c]
    exact h
theorem pq_HC_l {co : Nat → Int32} (hc : pq_HC co) {b j : Nat} (hb : b < 4) (hj : j < 8) : (nI (pq_mg (co (8 * b + j)))).toInt64 = pq_ab co b j := by
  have := hc (8 * b + j) (by omega)
  exact nI_l (by omega)
section PQG
variable {x_length x_cache x_pending x_readPosition : Int32} {x_low x_encoderRange x_decoderRange x_code x_decoderStep : Int64} {x_pulseCounts x_coefs x_energies x_pulses x_decoded x_vec x_sizes x_packet : Nat → Int32}
variable {b : Nat}
theorem px_bp {post : Int32 → Prop} {w : Nat → Nat} {cc ss : Int64} (hb : b < 4) (hc : pq_HC x_coefs) (hw : ∀ j, j < 8 → x_pulses (8 * b + j) = nI (w j)) (h : post (nI (8 * b + (pq_bs (pq_ab x_coefs b) w cc ss 8).1))) : ∀ d j, j + d = 8 →
    wX_bestPosition_12 post (nI (8 * b)) cc ss x_length x_low x_encoderRange x_cache x_pending x_readPosition x_decoderRange x_code x_decoderStep x_pulseCounts x_coefs x_energies x_pulses x_decoded x_vec x_sizes x_packet (d + 1) (nI (8 * b + (pq_bs (pq_ab x_coefs b) w cc ss j).1)) (pq_bs (pq_ab x_coefs b) w cc ss j).2.1 (pq_bs (pq_ab x_coefs b) w cc ss j).2.2 (nI (8 * b + j)) := by
  have e8 : nI (8 * b) + 8 = nI (8 * b + 8) := nI_add _ 8
  intro d
  induction d with
  | zero =>
    intro j hj
    have e : j = 8 := by omega
    subst e
    exact br_t (by rw [e8]; exact nI_le (Nat.le_refl _) (by omega)) h
  | succ d ih =>
    intro j hj
    have IH := ih (j + 1) (by omega)
    refine br_f (by rw [e8]; exact nI_ge (by omega) (by omega)) ⟨vp_in_nI (by omega) (by decide), px_mag (nm_r (e' := cc + pq_ab x_coefs b j) ?_ (nm_e ⟨vp_in_nI (by omega) (by decide), nm_r (e' := ss + (2 * nI (w j)).toInt64 + 1) ?_ ?_⟩))⟩
    · rw [nI_clamp (by omega), pq_HC_l hc hb (by omega)]
    · rw [nI_clamp (by omega), hw j (by omega)]
    · by_cases C : j = 0 ∨ (pq_bs (pq_ab x_coefs b) w cc ss j).2.1 * (ss + (2 * nI (w j)).toInt64 + 1) < (cc + pq_ab x_coefs b j) * (cc + pq_ab x_coefs b j) * (pq_bs (pq_ab x_coefs b) w cc ss j).2.2
      · have e : pq_bs (pq_ab x_coefs b) w cc ss (j + 1) = (j, (cc + pq_ab x_coefs b j) * (cc + pq_ab x_coefs b j), ss + (2 * nI (w j)).toInt64 + 1) := if_pos C
        rw [e] at IH
        by_cases z : j = 0
        · refine br_t (by rw [z]; rfl) (nm_r (nI_1 _) IH)
        · have C2 := C.resolve_left z
          refine br_f (fun y => z ?_) (br_f (Int64.not_le.mpr C2) (nm_r (nI_1 _) IH))
          have := (nI_eq (by omega) (by omega)).mp y
          omega
      · have e : pq_bs (pq_ab x_coefs b) w cc ss (j + 1) = pq_bs (pq_ab x_coefs b) w cc ss j := if_neg C
        rw [e] at IH
        have z : ¬ j = 0 := fun y => C (Or.inl y)
        have C2 := Int64.not_lt.mp (fun y => C (Or.inr y))
        refine br_f (fun y => z ?_) (br_t C2 (nm_r (nI_1 _) IH))
        have := (nI_eq (by omega) (by omega)).mp y
        omega
theorem px_best {post : Int32 → Prop} {w : Nat → Nat} {cc ss : Int64} (hb : b < 4) (hc : pq_HC x_coefs) (hw : ∀ j, j < 8 → x_pulses (8 * b + j) = nI (w j)) (h : post (nI (8 * b + (pq_bs (pq_ab x_coefs b) w cc ss 8).1))) : wpX_bestPosition post (x_length, x_low, x_encoderRange, x_cache, x_pending, x_readPosition, x_decoderRange, x_code, x_decoderStep, x_pulseCounts, x_coefs, x_energies, x_pulses, x_decoded, x_vec, x_sizes, x_packet) (nI (8 * b)) cc ss :=
  ⟨9, px_bp hb hc hw h 8 0 (by omega)⟩
theorem px_108 {post : St2 → Prop} {k : Nat} (hb : b < 4) (hk : k ≤ 16)
    (K : ∀ p : Nat → Int32, (∀ j, j < 8 → p (8 * b + j) = pq_yv x_coefs b k j) → (∀ i, (i < 8 * b ∨ 8 * b + 8 ≤ i) → p i = x_pulses i) → post (x_length, x_low, x_encoderRange, x_cache, x_pending, x_readPosition, x_decoderRange, x_code, x_decoderStep, x_pulseCounts, x_coefs, x_energies, p, x_decoded, x_vec, x_sizes, x_packet)) : ∀ d j (p : Nat → Int32), j + d = 8 → (∀ t, t < j → p (8 * b + t) = pq_yv x_coefs b k t) → (∀ t, j ≤ t → t < 8 → p (8 * b + t) = nI (pq_w x_coefs b k t)) → (∀ i, (i < 8 * b ∨ 8 * b + 8 ≤ i) → p i = x_pulses i) →
    wX_searchPulses_108 post (nI (8 * b)) x_length x_low x_encoderRange x_cache x_pending x_readPosition x_decoderRange x_code x_decoderStep (d + 1) (nI j) x_pulseCounts x_coefs x_energies p x_decoded x_vec x_sizes x_packet := by
  intro d
  induction d with
  | zero =>
    intro j p hj h1 h2 h3
    have e : j = 8 := by omega
    subst e
    exact br_t (nI_le (a := 8) (Nat.le_refl _) (by decide)) (K p h1 h3)
  | succ d ih =>
    intro j p hj h1 h2 h3
    have hp := h2 j (Nat.le_refl _) (by omega)
    refine br_f (nI_ge (b := 8) (by omega) (by decide)) ⟨pk_in (8 * b + j) 32 (by omega) (nI_add _ _), ?_⟩
    rw [nI_add, nI_clamp (by omega)]
    by_cases c : x_coefs (8 * b + j) < 0
    · have hy : pq_yv x_coefs b k j = -nI (pq_w x_coefs b k j) := if_pos c
      refine br_f (pq_nle0 c) ⟨vp_in_nI (by omega) (by decide), vp_in_nI (by omega) (by decide), nm_e (nm_r (nI_1 j) ?_)⟩
      rw [hp]
      refine ih (j + 1) _ (by omega) ?_ ?_ ?_
      · intro t ht
        by_cases z : t = j
        · subst z; rw [pk_us, hy]
        · rw [pk_un (by omega)]; exact h1 t (by omega)
      · intro t ht1 ht2
        rw [pk_un (by omega)]
        exact h2 t (by omega) ht2
      · intro i hi
        rw [pk_un (by omega)]
        exact h3 i hi
    · have hy : pq_yv x_coefs b k j = nI (pq_w x_coefs b k j) := if_neg c
      refine br_t (pq_nlt0 c) (nm_r (nI_1 j) (ih (j + 1) p (by omega) ?_ (fun t a c => h2 t (by omega) c) h3))
      intro t ht
      by_cases z : t = j
      · subst z; rw [hp, hy]
      · exact h1 t (by omega)
theorem px_36 {post : St2 → Prop} (hb : b < 4) (hc : pq_HC x_coefs) (hk : pq_HK x_pulseCounts)
    (K : ∀ p : Nat → Int32, (∀ j, j < 8 → p (8 * b + j) = pq_yv x_coefs b (pq_k x_pulseCounts b) j) → (∀ i, (i < 8 * b ∨ 8 * b + 8 ≤ i) → p i = x_pulses i) → post (x_length, x_low, x_encoderRange, x_cache, x_pending, x_readPosition, x_decoderRange, x_code, x_decoderStep, x_pulseCounts, x_coefs, x_energies, p, x_decoded, x_vec, x_sizes, x_packet)) : ∀ d i (p : Nat → Int32), i + d = pq_k x_pulseCounts b → (∀ t, t < 8 → p (8 * b + t) = nI ((pq_sr (pq_ab x_coefs b) i).1 t)) → (∀ i, (i < 8 * b ∨ 8 * b + 8 ≤ i) → p i = x_pulses i) →
    wX_searchPulses_36 post (nI b) (nI (8 * b)) x_length x_low x_encoderRange x_cache x_pending x_readPosition x_decoderRange x_code x_decoderStep (d + 1) (pq_sr (pq_ab x_coefs b) i).2.1 (pq_sr (pq_ab x_coefs b) i).2.2 (nI i) x_pulseCounts x_coefs x_energies p x_decoded x_vec x_sizes x_packet := by
  have ⟨k1, k2, k3⟩ := pq_k_s hk hb
  intro d
  induction d with
  | zero =>
    intro i p hi h1 h2
    have e : i = pq_k x_pulseCounts b := by omega
    refine ⟨vp_in_nI hb (by decide), ?_⟩
    rw [nI_clamp (by omega), k3]
    rw [e] at h1
    exact br_t (nI_le (by omega) (by omega)) ⟨9, px_108 hb k2 K 8 0 p (by omega) (fun t h => absurd h (Nat.not_lt_zero t)) (fun t _ ht => h1 t ht) h2⟩
  | succ d ih =>
    intro i p hi h1 h2
    refine ⟨vp_in_nI hb (by decide), ?_⟩
    rw [nI_clamp (by omega), k3]
    have hl := pq_bs_lt (pq_ab x_coefs b) (pq_sr (pq_ab x_coefs b) i).1 (pq_sr (pq_ab x_coefs b) i).2.1 (pq_sr (pq_ab x_coefs b) i).2.2 8 (Nat.le_refl _)
    refine br_f (nI_ge (by omega) (by omega)) (px_best (x_pulses := p) hb hc h1 ⟨vp_in_nI (by omega) (by decide), ?_⟩)
    rw [nI_clamp (by omega)]
    refine px_mag (nm_r (e' := (pq_sr (pq_ab x_coefs b) (i + 1)).2.1) ?_ ⟨vp_in_nI (by omega) (by decide), nm_r (e' := (pq_sr (pq_ab x_coefs b) (i + 1)).2.2) ?_ ⟨vp_in_nI (by omega) (by decide), vp_in_nI (by omega) (by decide), nm_e (nm_r (nI_1 i) (ih (i + 1) _ (by omega) ?_ ?_))⟩⟩)
    · rw [pq_HC_l hc hb hl]; rfl
    · rw [h1 _ hl]; rfl
    · intro t ht
      show _ = nI (pq_up (pq_sr (pq_ab x_coefs b) i).1 (pq_bs (pq_ab x_coefs b) (pq_sr (pq_ab x_coefs b) i).1 (pq_sr (pq_ab x_coefs b) i).2.1 (pq_sr (pq_ab x_coefs b) i).2.2 8).1 t)
      unfold pq_up
      by_cases z : t = (pq_bs (pq_ab x_coefs b) (pq_sr (pq_ab x_coefs b) i).1 (pq_sr (pq_ab x_coefs b) i).2.1 (pq_sr (pq_ab x_coefs b) i).2.2 8).1
      · rw [if_pos z, ← z, pk_us, h1 t ht, nI_1]
      · rw [if_neg z, pk_un (by omega), h1 t ht]
    · intro t ht
      rw [pk_un (by omega)]
      exact h2 t ht
theorem px_7 {post : St2 → Prop} (hb : b < 4) (hc : pq_HC x_coefs) (hk : pq_HK x_pulseCounts)
    (K : ∀ p : Nat → Int32, (∀ j, j < 8 → p (8 * b + j) = pq_yv x_coefs b (pq_k x_pulseCounts b) j) → (∀ i, (i < 8 * b ∨ 8 * b + 8 ≤ i) → p i = x_pulses i) → post (x_length, x_low, x_encoderRange, x_cache, x_pending, x_readPosition, x_decoderRange, x_code, x_decoderStep, x_pulseCounts, x_coefs, x_energies, p, x_decoded, x_vec, x_sizes, x_packet)) : ∀ d j (p : Nat → Int32), j + d = 8 → (∀ t, t < j → p (8 * b + t) = 0) → (∀ i, (i < 8 * b ∨ 8 * b + 8 ≤ i) → p i = x_pulses i) →
    wX_searchPulses_7 post (nI b) (nI (8 * b)) x_length x_low x_encoderRange x_cache x_pending x_readPosition x_decoderRange x_code x_decoderStep (d + 1) (nI j) x_pulseCounts x_coefs x_energies p x_decoded x_vec x_sizes x_packet := by
  intro d
  induction d with
  | zero =>
    intro j p hj h1 h2
    have e : j = 8 := by omega
    subst e
    exact br_t (nI_le (a := 8) (Nat.le_refl _) (by decide)) ⟨pq_k x_pulseCounts b + 1, px_36 hb hc hk K (pq_k x_pulseCounts b) 0 p (by omega) h1 h2⟩
  | succ d ih =>
    intro j p hj h1 h2
    refine br_f (nI_ge (b := 8) (by omega) (by decide)) ⟨pk_in (8 * b + j) 64 (by omega) (nI_add _ _), nm_r (e' := upd p (8 * b + j) 0) (by rw [nI_add, nI_clamp (by omega)]) (nm_r (nI_1 j) (ih (j + 1) _ (by omega) ?_ ?_))⟩
    · intro t ht
      by_cases z : t = j
      · subst z; exact pk_us
      · rw [pk_un (by omega)]; exact h1 t (by omega)
    · intro i hi
      rw [pk_un (by omega)]
      exact h2 i hi
theorem px_search {post : St2 → Prop} {p0 : Int32} (e0 : p0 = nI b) (hb : b < 4) (hc : pq_HC x_coefs) (hk : pq_HK x_pulseCounts)
    (K : ∀ p : Nat → Int32, (∀ j, j < 8 → p (8 * b + j) = pq_yv x_coefs b (pq_k x_pulseCounts b) j) → (∀ i, (i < 8 * b ∨ 8 * b + 8 ≤ i) → p i = x_pulses i) → post (x_length, x_low, x_encoderRange, x_cache, x_pending, x_readPosition, x_decoderRange, x_code, x_decoderStep, x_pulseCounts, x_coefs, x_energies, p, x_decoded, x_vec, x_sizes, x_packet)) : wpX_searchPulses post (x_length, x_low, x_encoderRange, x_cache, x_pending, x_readPosition, x_decoderRange, x_code, x_decoderStep, x_pulseCounts, x_coefs, x_energies, x_pulses, x_decoded, x_vec, x_sizes, x_packet) p0 := by
  subst e0
  exact nm_r (pq_b8 b) ⟨9, px_7 hb hc hk K 8 0 x_pulses (by omega) (fun t h => absurd h (Nat.not_lt_zero t)) (fun _ _ => rfl)⟩
/-! the same in the reference -/
end PQG
