/-- what holds of the state: ranges, and the pieces that both sides keep -/
def pq_F (le : Nat) (pc co pk x_energies x_pulses x_decoded x_vec x_sizes y_encQ y_encP y_decQ y_decP y_decC y_vec y_vt : Nat → Int32) : Prop :=
  le ≤ 64 ∧ pq_HK pc ∧ pq_HC co ∧ pq_B pk ∧ pq_tb x_sizes ∧ pq_tb y_vt ∧ pq_HQ x_energies ∧ (∀ j, j < 4 → x_energies j = y_encQ j) ∧ (∀ j, j < 4 → x_energies (4 + j) = y_decQ j) ∧
  (∀ i, i < 32 → x_pulses i = y_encP i) ∧ (∀ i, i < 32 → x_pulses (32 + i) = y_decP i) ∧ (∀ i, i < 32 → x_decoded i = y_decC i) ∧ (∀ i, i < 8 → x_vec i = y_vec i ∧ pq_mg (x_vec i) ≤ 16)
def i_Rel (_ : Nat) (u : SX) (v : SY) : Prop := ∃ (le : Nat) (pc co pk : Nat → Int32) (x_low : Int64) (x_encoderRange : Int64) (x_cache : Int32) (x_pending : Int32) (x_readPosition : Int32) (x_decoderRange : Int64) (x_code : Int64) (x_decoderStep : Int64) (x_energies : Nat → Int32) (x_pulses : Nat → Int32) (x_decoded : Nat → Int32) (x_vec : Nat → Int32) (x_sizes : Nat → Int32) (y_low : Int64) (y_rng : Int64) (y_cache : Int64) (y_pending : Int32) (y_rpos : Int32) (y_drng : Int64) (y_dcode : Int64) (y_dr : Int64) (y_encQ : Nat → Int32) (y_encP : Nat → Int32) (y_decQ : Nat → Int32) (y_decP : Nat → Int32) (y_decC : Nat → Int32) (y_vec : Nat → Int32) (y_work : Nat → Int32) (y_vt : Nat → Int32), u = (nI le, x_low, x_encoderRange, x_cache, x_pending, x_readPosition, x_decoderRange, x_code, x_decoderStep, pc, co, x_energies, x_pulses, x_decoded, x_vec, x_sizes, pk) ∧ v = (nI le, y_low, y_rng, y_cache, y_pending, y_rpos, y_drng, y_dcode, y_dr, pc, co, y_encQ, y_encP, y_decQ, y_decP, y_decC, pk, y_vec, y_work, y_vt) ∧ pq_F le pc co pk x_energies x_pulses x_decoded x_vec x_sizes y_encQ y_encP y_decQ y_decP y_decC y_vec y_vt
theorem i_up {k : Nat} {u : SX} {v : SY} (h : i_Rel k u v) : i_Rel (k + 4) u v := h
section PQR
variable {x_length x_cache x_pending x_readPosition : Int32} {x_low x_encoderRange x_decoderRange x_code x_decoderStep : Int64} {x_pulseCounts x_coefs x_energies x_pulses x_decoded x_vec x_sizes x_packet : Nat → Int32}
variable {y_pktLen y_pending y_rpos : Int32} {y_low y_rng y_cache y_drng y_dcode y_dr : Int64} {y_kb y_inp y_encQ y_encP y_decQ y_decP y_decC y_pkt y_vec y_work y_vt : Nat → Int32}
variable {le : Nat} {pc co pk : Nat → Int32}
theorem pq_mk {k : Nat} (h : pq_F le pc co pk x_energies x_pulses x_decoded x_vec x_sizes y_encQ y_encP y_decQ y_decP y_decC y_vec y_vt) : i_Rel k (nI le, x_low, x_encoderRange, x_cache, x_pending, x_readPosition, x_decoderRange, x_code, x_decoderStep, pc, co, x_energies, x_pulses, x_decoded, x_vec, x_sizes, pk) (nI le, y_low, y_rng, y_cache, y_pending, y_rpos, y_drng, y_dcode, y_dr, pc, co, y_encQ, y_encP, y_decQ, y_decP, y_decC, pk, y_vec, y_work, y_vt) := ⟨le, pc, co, pk, x_low, x_encoderRange, x_cache, x_pending, x_readPosition, x_decoderRange, x_code, x_decoderStep, x_energies, x_pulses, x_decoded, x_vec, x_sizes, y_low, y_rng, y_cache, y_pending, y_rpos, y_drng, y_dcode, y_dr, y_encQ, y_encP, y_decQ, y_decP, y_decC, y_vec, y_work, y_vt, rfl, rfl, h⟩
theorem pq_rng (x : Int32) {n m : Nat} (hn : n = m + 1) (h : n < 2 ^ 31) : x < 0 ∨ (¬ x < 0 ∧ ¬ x < nI n ∧ ¬ x ≤ nI m ∧ nI n ≤ x) ∨ ∃ j, j < n ∧ x = nI j := by
  cases pk_ix x h with
  | inl a => exact Or.inl a
  | inr a =>
    cases a with
    | inl a =>
      refine Or.inr (Or.inl ?_)
      have a2 := Int32.le_iff_toInt_le.mp a
      rw [nI_toInt h] at a2
      refine ⟨?_, ?_, ?_, a⟩
      · rw [Int32.lt_iff_toInt_lt, pq_z32]; omega
      · rw [Int32.lt_iff_toInt_lt, nI_toInt h]; omega
      · rw [Int32.le_iff_toInt_le, nI_toInt (by omega)]; omega
    | inr a => exact Or.inr (Or.inr a)
theorem pq_upR {f g : Nat → Int32} {N j : Nat} {z : Int32} (h : ∀ i, i < N → f i = g i) : ∀ i, i < N → upd f j z i = upd g j z i := by
  intro i hi
  by_cases e : i = j
  · subst e; rw [pk_us, pk_us]
  · rw [pk_un e, pk_un e]; exact h i hi
theorem i_vc0 (k0 : Int32) (k1 : Int32) (k2 : Int32) (k3 : Int32) : wpX_init (fun u => wpY_init (fun v => i_Rel 4 u v) k0 k1 k2 k3) k0 k1 k2 k3 := by
  refine px_init ?_
  intro t ht
  refine py_init ?_
  intro t2 ht2
  refine pq_mk (le := 0) ⟨by decide, ?_, ?_, ?_, ht, ht2, ?_, fun _ _ => rfl, fun _ _ => rfl, fun _ _ => rfl, fun _ _ => rfl, fun _ _ => rfl, fun i _ => ⟨rfl, ?_⟩⟩
  · intro b hb
    have c0 := pq_cl_1 k0
    have c1 := pq_cl_1 k1
    have c2 := pq_cl_1 k2
    have c3 := pq_cl_1 k3
    by_cases b3 : b = 3
    · subst b3; rw [pk_us]; exact c3
    · rw [pk_un b3]
      by_cases b2 : b = 2
      · subst b2; rw [pk_us]; exact c2
      · rw [pk_un b2]
        by_cases b1 : b = 1
        · subst b1; rw [pk_us]; exact c1
        · rw [pk_un b1]
          have b0 : b = 0 := by omega
          subst b0; rw [pk_us]; exact c0
  · intro j _; exact (by decide : pq_mg 0 ≤ 32767)
  · intro i _; exact ⟨0, by decide, rfl⟩
  · intro b _; exact ⟨0, by decide, rfl⟩
  · exact (by decide : pq_mg 0 ≤ 16)
theorem i_vc_setCoef {k : Nat} {u : SX} {v : SY} (I : i_Rel k u v) (hk : k + 4 ≤ 2052) (v1 : Int32) (v2 : Int32) : wpX_setCoef (fun r u' => wpY_setCoef (fun r' v' => r' = r ∧ i_Rel (k + 4) u' v') v v1 v2) u v1 v2 := by
  obtain ⟨le, pc, co, pk, x_low, x_encoderRange, x_cache, x_pending, x_readPosition, x_decoderRange, x_code, x_decoderStep, x_energies, x_pulses, x_decoded, x_vec, x_sizes, y_low, y_rng, y_cache, y_pending, y_rpos, y_drng, y_dcode, y_dr, y_encQ, y_encP, y_decQ, y_decP, y_decC, y_vec, y_work, y_vt, rfl, rfl, hl, hk, hc, hB, ht, ht2, hq, e1, e2, p1, p2, dC, vv⟩ := I
  rcases pq_rng v1 (n := 32) (m := 31) rfl (by decide) with a | ⟨a, b, c, _⟩ | ⟨j, hj, rfl⟩
  · exact br_t a (br_t a ⟨rfl, pq_mk ⟨hl, hk, hc, hB, ht, ht2, hq, e1, e2, p1, p2, dC, vv⟩⟩)
  · exact br_f a (br_f b (br_f a (br_f c ⟨rfl, pq_mk ⟨hl, hk, hc, hB, ht, ht2, hq, e1, e2, p1, p2, dC, vv⟩⟩)))
  · have i1 : vp_in (nI j) 32 := vp_in_nI hj (by decide)
    refine br_f (nI_pos (by omega)) (br_t (nI_lt (b := 32) hj (by decide)) (px_clamp ⟨i1, nm_e (br_f (nI_pos (by omega)) (br_t (nI_le (b := 31) (by omega) (by decide)) (py_clamp ⟨i1, nm_e ⟨rfl, pq_mk ⟨hl, hk, ?_, hB, ht, ht2, hq, e1, e2, p1, p2, dC, vv⟩⟩⟩)))⟩))
    intro i hi
    by_cases z : i = (nI j).toNatClampNeg
    · rw [← z, pk_us]; exact pq_cl_m v2 (c := 32767) (C := 32767) (by decide) rfl
    · rw [pk_un z]; exact hc i hi
theorem i_vc_coefAt {k : Nat} {u : SX} {v : SY} (I : i_Rel k u v) (hk : k + 4 ≤ 2052) (v1 : Int32) : wpX_coefAt (fun r => wpY_coefAt (fun r' => r' = r ∧ i_Rel (k + 4) u v) v v1) u v1 := by
  have I2 : i_Rel (k + 4) u v := I
  obtain ⟨le, pc, co, pk, x_low, x_encoderRange, x_cache, x_pending, x_readPosition, x_decoderRange, x_code, x_decoderStep, x_energies, x_pulses, x_decoded, x_vec, x_sizes, y_low, y_rng, y_cache, y_pending, y_rpos, y_drng, y_dcode, y_dr, y_encQ, y_encP, y_decQ, y_decP, y_decC, y_vec, y_work, y_vt, rfl, rfl, hl, hk, hc, hB, ht, ht2, hq, e1, e2, p1, p2, dC, vv⟩ := I
  rcases pq_rng v1 (n := 32) (m := 31) rfl (by decide) with a | ⟨a, b, c, _⟩ | ⟨j, hj, rfl⟩
  · exact br_t a (br_t a ⟨rfl, I2⟩)
  · exact br_f a (br_f b (br_f a (br_f c ⟨rfl, I2⟩)))
  · have i1 : vp_in (nI j) 32 := vp_in_nI hj (by decide)
    refine br_f (nI_pos (by omega)) (br_t (nI_lt (b := 32) hj (by decide)) ⟨i1, br_f (nI_pos (by omega)) (br_t (nI_le (b := 31) (by omega) (by decide)) ⟨i1, ?_, I2⟩)⟩)
    rw [nI_clamp (by omega)]
    all_goals exact rfl
theorem i_vc_decodedCoef {k : Nat} {u : SX} {v : SY} (I : i_Rel k u v) (hk : k + 4 ≤ 2052) (v1 : Int32) : wpX_decodedCoef (fun r => wpY_decodedCoef (fun r' => r' = r ∧ i_Rel (k + 4) u v) v v1) u v1 := by
  have I2 : i_Rel (k + 4) u v := I
  obtain ⟨le, pc, co, pk, x_low, x_encoderRange, x_cache, x_pending, x_readPosition, x_decoderRange, x_code, x_decoderStep, x_energies, x_pulses, x_decoded, x_vec, x_sizes, y_low, y_rng, y_cache, y_pending, y_rpos, y_drng, y_dcode, y_dr, y_encQ, y_encP, y_decQ, y_decP, y_decC, y_vec, y_work, y_vt, rfl, rfl, hl, hk, hc, hB, ht, ht2, hq, e1, e2, p1, p2, dC, vv⟩ := I
  rcases pq_rng v1 (n := 32) (m := 31) rfl (by decide) with a | ⟨a, b, c, _⟩ | ⟨j, hj, rfl⟩
  · exact br_t a (br_t a ⟨rfl, I2⟩)
  · exact br_f a (br_f b (br_f a (br_f c ⟨rfl, I2⟩)))
  · have i1 : vp_in (nI j) 32 := vp_in_nI hj (by decide)
    refine br_f (nI_pos (by omega)) (br_t (nI_lt (b := 32) hj (by decide)) ⟨i1, br_f (nI_pos (by omega)) (br_t (nI_le (b := 31) (by omega) (by decide)) ⟨i1, ?_, I2⟩)⟩)
    rw [nI_clamp (by omega)]
    all_goals exact (dC j hj).symm
theorem i_vc_vecAt {k : Nat} {u : SX} {v : SY} (I : i_Rel k u v) (hk : k + 4 ≤ 2052) (v1 : Int32) : wpX_vecAt (fun r => wpY_vecAt (fun r' => r' = r ∧ i_Rel (k + 4) u v) v v1) u v1 := by
  have I2 : i_Rel (k + 4) u v := I
  obtain ⟨le, pc, co, pk, x_low, x_encoderRange, x_cache, x_pending, x_readPosition, x_decoderRange, x_code, x_decoderStep, x_energies, x_pulses, x_decoded, x_vec, x_sizes, y_low, y_rng, y_cache, y_pending, y_rpos, y_drng, y_dcode, y_dr, y_encQ, y_encP, y_decQ, y_decP, y_decC, y_vec, y_work, y_vt, rfl, rfl, hl, hk, hc, hB, ht, ht2, hq, e1, e2, p1, p2, dC, vv⟩ := I
  rcases pq_rng v1 (n := 8) (m := 7) rfl (by decide) with a | ⟨a, b, c, _⟩ | ⟨j, hj, rfl⟩
  · exact br_t a (br_t a ⟨rfl, I2⟩)
  · exact br_f a (br_f b (br_f a (br_f c ⟨rfl, I2⟩)))
  · have i1 : vp_in (nI j) 8 := vp_in_nI hj (by decide)
    refine br_f (nI_pos (by omega)) (br_t (nI_lt (b := 8) hj (by decide)) ⟨i1, br_f (nI_pos (by omega)) (br_t (nI_le (b := 7) (by omega) (by decide)) ⟨i1, ?_, I2⟩)⟩)
    rw [nI_clamp (by omega)]
    all_goals exact (vv j hj).1.symm
theorem i_vc_packetLength {k : Nat} {u : SX} {v : SY} (I : i_Rel k u v) (hk : k + 4 ≤ 2052) : wpX_packetLength (fun r => wpY_packetLength (fun r' => r' = r ∧ i_Rel (k + 4) u v) v) u := by
  have I2 : i_Rel (k + 4) u v := I
  obtain ⟨le, pc, co, pk, x_low, x_encoderRange, x_cache, x_pending, x_readPosition, x_decoderRange, x_code, x_decoderStep, x_energies, x_pulses, x_decoded, x_vec, x_sizes, y_low, y_rng, y_cache, y_pending, y_rpos, y_drng, y_dcode, y_dr, y_encQ, y_encP, y_decQ, y_decP, y_decC, y_vec, y_work, y_vt, rfl, rfl, hl, hk, hc, hB, ht, ht2, hq, e1, e2, p1, p2, dC, vv⟩ := I
  exact ⟨rfl, I2⟩
theorem i_vc_packetByte {k : Nat} {u : SX} {v : SY} (I : i_Rel k u v) (hk : k + 4 ≤ 2052) (v1 : Int32) : wpX_packetByte (fun r => wpY_packetByte (fun r' => r' = r ∧ i_Rel (k + 4) u v) v v1) u v1 := by
  have I2 : i_Rel (k + 4) u v := I
  obtain ⟨le, pc, co, pk, x_low, x_encoderRange, x_cache, x_pending, x_readPosition, x_decoderRange, x_code, x_decoderStep, x_energies, x_pulses, x_decoded, x_vec, x_sizes, y_low, y_rng, y_cache, y_pending, y_rpos, y_drng, y_dcode, y_dr, y_encQ, y_encP, y_decQ, y_decP, y_decC, y_vec, y_work, y_vt, rfl, rfl, hl, hk, hc, hB, ht, ht2, hq, e1, e2, p1, p2, dC, vv⟩ := I
  rcases pq_rng v1 (n := 64) (m := 63) rfl (by decide) with a | ⟨a, b, c, d⟩ | ⟨j, hj, rfl⟩
  · exact br_t a (br_t a ⟨rfl, I2⟩)
  · have z : ¬ v1 < nI le := by
      intro y
      have y1 := Int32.lt_iff_toInt_lt.mp y
      have y2 := Int32.le_iff_toInt_le.mp d
      rw [nI_toInt (by omega)] at y1 y2
      omega
    exact br_f a (br_t d (br_f a (br_f z ⟨rfl, I2⟩)))
  · have i1 : vp_in (nI j) 64 := vp_in_nI hj (by decide)
    refine br_f (nI_pos (by omega)) (br_f (nI_ge (b := 64) hj (by decide)) ?_)
    by_cases c : j < le
    · exact br_t (nI_lt c (by omega)) ⟨i1, br_f (nI_pos (by omega)) (br_t (nI_lt c (by omega)) ⟨i1, rfl, I2⟩)⟩
    · exact br_f (nI_nlt (by omega) (by omega)) (br_f (nI_pos (by omega)) (br_f (nI_nlt (by omega) (by omega)) ⟨rfl, I2⟩))
theorem i_vc_putByte {k : Nat} {u : SX} {v : SY} (I : i_Rel k u v) (hk : k + 4 ≤ 2052) (v1 : Int32) (v2 : Int32) : wpX_putByte (fun r u' => wpY_putByte (fun r' v' => r' = r ∧ i_Rel (k + 4) u' v') v v1 v2) u v1 v2 := by
  obtain ⟨le, pc, co, pk, x_low, x_encoderRange, x_cache, x_pending, x_readPosition, x_decoderRange, x_code, x_decoderStep, x_energies, x_pulses, x_decoded, x_vec, x_sizes, y_low, y_rng, y_cache, y_pending, y_rpos, y_drng, y_dcode, y_dr, y_encQ, y_encP, y_decQ, y_decP, y_decC, y_vec, y_work, y_vt, rfl, rfl, hl, hk, hc, hB, ht, ht2, hq, e1, e2, p1, p2, dC, vv⟩ := I
  rcases pq_rng v1 (n := 64) (m := 63) rfl (by decide) with a | ⟨a, b, c, d⟩ | ⟨j, hj, rfl⟩
  · exact br_t a (br_t a ⟨rfl, pq_mk ⟨hl, hk, hc, hB, ht, ht2, hq, e1, e2, p1, p2, dC, vv⟩⟩)
  · exact br_f a (br_t d (br_f a (br_t d ⟨rfl, pq_mk ⟨hl, hk, hc, hB, ht, ht2, hq, e1, e2, p1, p2, dC, vv⟩⟩)))
  · have i1 : vp_in (nI j) 64 := vp_in_nI hj (by decide)
    obtain ⟨w, hw, ew⟩ := pk_andE v2 (m := 255) 8 (by decide)
    have hw2 : w < 256 := hw
    refine br_f (nI_pos (by omega)) (br_f (nI_ge (b := 64) hj (by decide)) ?_)
    by_cases c : j ≤ le
    · refine br_t (nI_le c (by omega)) ⟨i1, nm_r (e' := upd pk j (nI w)) (by rw [nI_clamp (by omega), ew]) ?_⟩
      by_cases z : j = le
      · have z1 : nI j = nI le := by rw [z]
        refine br_t z1 (nm_r (nI_1 le) (br_f (nI_pos (by omega)) (br_f (nI_ge (b := 64) hj (by decide)) (br_t (nI_le c (by omega)) ⟨i1, nm_r (e' := upd pk j (nI w)) (by rw [nI_clamp (by omega), ew]) (br_t z1 (nm_r (nI_1 le) ⟨rfl, pq_mk ⟨by omega, hk, hc, pq_B_u hB hw2, ht, ht2, hq, e1, e2, p1, p2, dC, vv⟩⟩))⟩))))
      · have z1 : ¬ nI j = nI le := fun y => z ((nI_eq (by omega) (by omega)).mp y)
        refine br_f z1 (br_f (nI_pos (by omega)) (br_f (nI_ge (b := 64) hj (by decide)) (br_t (nI_le c (by omega)) ⟨i1, nm_r (e' := upd pk j (nI w)) (by rw [nI_clamp (by omega), ew]) (br_f z1 ⟨rfl, pq_mk ⟨hl, hk, hc, pq_B_u hB hw2, ht, ht2, hq, e1, e2, p1, p2, dC, vv⟩⟩)⟩)))
    · refine br_f (nI_ge (by omega) (by omega)) (br_f (nI_pos (by omega)) (br_f (nI_ge (b := 64) hj (by decide)) (br_f (nI_ge (by omega) (by omega)) ⟨rfl, pq_mk ⟨hl, hk, hc, hB, ht, ht2, hq, e1, e2, p1, p2, dC, vv⟩⟩)))
theorem i_vc_energyQ {k : Nat} {u : SX} {v : SY} (I : i_Rel k u v) (hk : k + 4 ≤ 2052) (v1 : Int32) (v2 : Int32) : wpX_energyQ (fun r => wpY_energyQ (fun r' => r' = r ∧ i_Rel (k + 4) u v) v v1 v2) u v1 v2 := by
  have I2 : i_Rel (k + 4) u v := I
  obtain ⟨le, pc, co, pk, x_low, x_encoderRange, x_cache, x_pending, x_readPosition, x_decoderRange, x_code, x_decoderStep, x_energies, x_pulses, x_decoded, x_vec, x_sizes, y_low, y_rng, y_cache, y_pending, y_rpos, y_drng, y_dcode, y_dr, y_encQ, y_encP, y_decQ, y_decP, y_decC, y_vec, y_work, y_vt, rfl, rfl, hl, hk, hc, hB, ht, ht2, hq, e1, e2, p1, p2, dC, vv⟩ := I
  by_cases s0 : v1 = 0
  · subst s0
    refine br_t rfl ?_
    rcases pq_rng v2 (n := 4) (m := 3) rfl (by decide) with a | ⟨a, b, c, _⟩ | ⟨j, hj, rfl⟩
    · exact br_t a (br_t rfl (br_t a ⟨rfl, I2⟩))
    · exact br_f a (br_f b (br_t rfl (br_f a (br_f c ⟨rfl, I2⟩))))
    · have ei : (0 : Int32) * 4 + nI j = nI j := by rw [show (0 : Int32) * 4 = 0 by decide, pq_0i]
      refine br_f (nI_pos (by omega)) (br_t (nI_lt (b := 4) hj (by decide)) ⟨pk_in j 8 (by omega) ei, br_t rfl (br_f (nI_pos (by omega)) (br_t (nI_le (b := 3) (by omega) (by decide)) (br_t rfl ⟨vp_in_nI hj (by decide), ?_, I2⟩)))⟩)
      rw [ei, nI_clamp (by omega)]
      exact (e1 j hj).symm
  · refine br_f s0 ?_
    by_cases s1 : v1 = 1
    · subst s1
      refine br_t rfl ?_
      rcases pq_rng v2 (n := 4) (m := 3) rfl (by decide) with a | ⟨a, b, c, _⟩ | ⟨j, hj, rfl⟩
      · exact br_t a (br_f s0 (br_t rfl (br_t a ⟨rfl, I2⟩)))
      · exact br_f a (br_f b (br_f s0 (br_t rfl (br_f a (br_f c ⟨rfl, I2⟩)))))
      · have ei : (1 : Int32) * 4 + nI j = nI (4 + j) := by rw [show (1 : Int32) * 4 = nI 4 by decide, nI_add]
        refine br_f (nI_pos (by omega)) (br_t (nI_lt (b := 4) hj (by decide)) ⟨pk_in (4 + j) 8 (by omega) ei, br_f s0 (br_t rfl (br_f (nI_pos (by omega)) (br_t (nI_le (b := 3) (by omega) (by decide)) (br_f s0 ⟨vp_in_nI hj (by decide), ?_, I2⟩))))⟩)
        rw [ei, nI_clamp (by omega), nI_clamp (by omega)]
        exact (e2 j hj).symm
    · exact br_f s1 (br_f s0 (br_f s1 ⟨rfl, I2⟩))
theorem i_vc_pulse {k : Nat} {u : SX} {v : SY} (I : i_Rel k u v) (hk : k + 4 ≤ 2052) (v1 : Int32) (v2 : Int32) : wpX_pulse (fun r => wpY_pulse (fun r' => r' = r ∧ i_Rel (k + 4) u v) v v1 v2) u v1 v2 := by
  have I2 : i_Rel (k + 4) u v := I
  obtain ⟨le, pc, co, pk, x_low, x_encoderRange, x_cache, x_pending, x_readPosition, x_decoderRange, x_code, x_decoderStep, x_energies, x_pulses, x_decoded, x_vec, x_sizes, y_low, y_rng, y_cache, y_pending, y_rpos, y_drng, y_dcode, y_dr, y_encQ, y_encP, y_decQ, y_decP, y_decC, y_vec, y_work, y_vt, rfl, rfl, hl, hk, hc, hB, ht, ht2, hq, e1, e2, p1, p2, dC, vv⟩ := I
  by_cases s0 : v1 = 0
  · subst s0
    refine br_t rfl ?_
    rcases pq_rng v2 (n := 32) (m := 31) rfl (by decide) with a | ⟨a, b, c, _⟩ | ⟨j, hj, rfl⟩
    · exact br_t a (br_t rfl (br_t a ⟨rfl, I2⟩))
    · exact br_f a (br_f b (br_t rfl (br_f a (br_f c ⟨rfl, I2⟩))))
    · have ei : (0 : Int32) * 32 + nI j = nI j := by rw [show (0 : Int32) * 32 = 0 by decide, pq_0i]
      refine br_f (nI_pos (by omega)) (br_t (nI_lt (b := 32) hj (by decide)) ⟨pk_in j 64 (by omega) ei, br_t rfl (br_f (nI_pos (by omega)) (br_t (nI_le (b := 31) (by omega) (by decide)) (br_t rfl ⟨vp_in_nI hj (by decide), ?_, I2⟩)))⟩)
      rw [ei, nI_clamp (by omega)]
      exact (p1 j hj).symm
  · refine br_f s0 ?_
    by_cases s1 : v1 = 1
    · subst s1
      refine br_t rfl ?_
      rcases pq_rng v2 (n := 32) (m := 31) rfl (by decide) with a | ⟨a, b, c, _⟩ | ⟨j, hj, rfl⟩
      · exact br_t a (br_f s0 (br_t rfl (br_t a ⟨rfl, I2⟩)))
      · exact br_f a (br_f b (br_f s0 (br_t rfl (br_f a (br_f c ⟨rfl, I2⟩)))))
      · have ei : (1 : Int32) * 32 + nI j = nI (32 + j) := by rw [show (1 : Int32) * 32 = nI 32 by decide, nI_add]
        refine br_f (nI_pos (by omega)) (br_t (nI_lt (b := 32) hj (by decide)) ⟨pk_in (32 + j) 64 (by omega) ei, br_f s0 (br_t rfl (br_f (nI_pos (by omega)) (br_t (nI_le (b := 31) (by omega) (by decide)) (br_f s0 ⟨vp_in_nI hj (by decide), ?_, I2⟩))))⟩)
        rw [ei, nI_clamp (by omega), nI_clamp (by omega)]
        exact (p2 j hj).symm
    · exact br_f s1 (br_f s0 (br_f s1 ⟨rfl, I2⟩))
theorem i_vc_setVec {k : Nat} {u : SX} {v : SY} (I : i_Rel k u v) (hk : k + 4 ≤ 2052) (v1 : Int32) (v2 : Int32) : wpX_setVec (fun r u' => wpY_setVec (fun r' v' => r' = r ∧ i_Rel (k + 4) u' v') v v1 v2) u v1 v2 := by
  obtain ⟨le, pc, co, pk, x_low, x_encoderRange, x_cache, x_pending, x_readPosition, x_decoderRange, x_code, x_decoderStep, x_energies, x_pulses, x_decoded, x_vec, x_sizes, y_low, y_rng, y_cache, y_pending, y_rpos, y_drng, y_dcode, y_dr, y_encQ, y_encP, y_decQ, y_decP, y_decC, y_vec, y_work, y_vt, rfl, rfl, hl, hk, hc, hB, ht, ht2, hq, e1, e2, p1, p2, dC, vv⟩ := I
  rcases pq_rng v1 (n := 8) (m := 7) rfl (by decide) with a | ⟨a, b, c, _⟩ | ⟨j, hj, rfl⟩
  · exact br_t a (br_t a ⟨rfl, pq_mk ⟨hl, hk, hc, hB, ht, ht2, hq, e1, e2, p1, p2, dC, vv⟩⟩)
  · exact br_f a (br_f b (br_f a (br_f c ⟨rfl, pq_mk ⟨hl, hk, hc, hB, ht, ht2, hq, e1, e2, p1, p2, dC, vv⟩⟩)))
  · have i1 : vp_in (nI j) 8 := vp_in_nI hj (by decide)
    refine br_f (nI_pos (by omega)) (br_t (nI_lt (b := 8) hj (by decide)) (px_clamp ⟨i1, nm_e (br_f (nI_pos (by omega)) (br_t (nI_le (b := 7) (by omega) (by decide)) (py_clamp ⟨i1, nm_e ⟨rfl, pq_mk ⟨hl, hk, hc, hB, ht, ht2, hq, e1, e2, p1, p2, dC, ?_⟩⟩⟩)))⟩))
    intro i hi
    by_cases z : i = (nI j).toNatClampNeg
    · rw [← z, pk_us, pk_us]; exact ⟨rfl, pq_cl_m v2 (c := 16) (C := 16) (by decide) rfl⟩
    · rw [pk_un z, pk_un z]; exact vv i hi
theorem i_vc_pyramidSize {k : Nat} {u : SX} {v : SY} (I : i_Rel k u v) (hk : k + 4 ≤ 2052) (v1 : Int32) (v2 : Int32) : wpX_pyramidSize (fun r => wpY_pyramidSize (fun r' => r' = r ∧ i_Rel (k + 4) u v) v v1 v2) u v1 v2 := by
  have I2 : i_Rel (k + 4) u v := I
  obtain ⟨le, pc, co, pk, x_low, x_encoderRange, x_cache, x_pending, x_readPosition, x_decoderRange, x_code, x_decoderStep, x_energies, x_pulses, x_decoded, x_vec, x_sizes, y_low, y_rng, y_cache, y_pending, y_rpos, y_drng, y_dcode, y_dr, y_encQ, y_encP, y_decQ, y_decP, y_decC, y_vec, y_work, y_vt, rfl, rfl, hl, hk, hc, hB, ht, ht2, hq, e1, e2, p1, p2, dC, vv⟩ := I
  rcases pq_rng v1 (n := 9) (m := 8) rfl (by decide) with a | ⟨a, _, c, _⟩ | ⟨n, hn, rfl⟩
  · exact br_t a (br_t a ⟨rfl, I2⟩)
  · have c2 := Int32.not_le.mp c
    exact br_f a (br_t c2 (br_f a (br_t c2 ⟨rfl, I2⟩)))
  · have n1 : ¬ (8 : Int32) < nI n := nI_nlt (a := 8) (by omega) (by decide)
    have n0 : ¬ nI n < 0 := nI_pos (by omega)
    rcases pq_rng v2 (n := 17) (m := 16) rfl (by decide) with a | ⟨a, _, c, _⟩ | ⟨q, hq2, rfl⟩
    · exact br_f n0 (br_f n1 (br_t a (br_f n0 (br_f n1 (br_t a ⟨rfl, I2⟩)))))
    · exact br_f n0 (br_f n1 (br_f a (br_f c (br_f n0 (br_f n1 (br_f a (br_f c ⟨rfl, I2⟩)))))))
    · have q0 : ¬ nI q < 0 := nI_pos (by omega)
      have q1 : nI q ≤ 16 := nI_le (b := 16) (by omega) (by decide)
      exact br_f n0 (br_f n1 (br_f q0 (br_t q1 (px_size (n := n) (k := q) ht (by omega) (by omega) rfl rfl (br_f n0 (br_f n1 (br_f q0 (br_t q1 (py_vv (n := n) (k := q) ht2 (by omega) (by omega) rfl rfl ⟨rfl, I2⟩)))))))))
end PQR
