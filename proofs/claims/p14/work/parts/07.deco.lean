/-! the range decoder's walks -/
def pq_rs (s : Nat) : Int32 := if nI s - nI s / 2 * 2 = 0 then nI s / 2 else (-(nI s + 1)) / 2
section PQD
variable {x_length x_cache x_pending x_readPosition : Int32} {x_low x_encoderRange x_decoderRange x_code x_decoderStep : Int64} {x_pulseCounts x_coefs x_energies x_pulses x_decoded x_vec x_sizes x_packet : Nat → Int32}
variable {pk : Nat → Int32} {le : Nat}
theorem px_39 {post : St2 → Prop} {p c b : Nat} (hc : c < 2 ^ 40) (hb : b < 256) (h : post (x_length, x_low, x_encoderRange, x_cache, x_pending, nI (p + 1), x_decoderRange, lN ((c * 256 + b) % 4294967296), x_decoderStep, x_pulseCounts, x_coefs, x_energies, x_pulses, x_decoded, x_vec, x_sizes, x_packet)) : wX_takeByte_39 post (nI b) x_length x_low x_encoderRange x_cache x_pending (nI p) x_decoderRange (lN c) x_decoderStep x_pulseCounts x_coefs x_energies x_pulses x_decoded x_vec x_sizes x_packet := by
  refine nm_r (nI_1 p) ⟨by decide, nm_r (e' := lN ((c * 256 + b) % 4294967296)) ?_ h⟩
  rw [nI_l (by omega), pq_lm256, lN_add, pq_lr32 (by omega)]
theorem px_tk {post : St2 → Prop} {d : pq_D} (hB : pq_B pk) (hl : le ≤ 64) (hp : d.1 < 2 ^ 30) (hc : d.2.2 < 2 ^ 40) (h : post (nI le, x_low, x_encoderRange, x_cache, x_pending, nI ((pq_tk pk le d)).1, lN ((pq_tk pk le d)).2.1, lN ((pq_tk pk le d)).2.2, x_decoderStep, x_pulseCounts, x_coefs, x_energies, x_pulses, x_decoded, x_vec, x_sizes, pk)) : wpX_takeByte post (nI le, x_low, x_encoderRange, x_cache, x_pending, nI d.1, lN d.2.1, lN d.2.2, x_decoderStep, x_pulseCounts, x_coefs, x_energies, x_pulses, x_decoded, x_vec, x_sizes, pk) := by
  have hb := pq_by_lt hB hl d.1
  refine br_f (nI_pos (by omega)) ?_
  by_cases c : d.1 < le
  · have ⟨y1, y2⟩ := pq_by_e hB hl c
    refine br_f (nI_ge (b := 64) (by omega) (by decide)) (br_f (nI_ge c (by omega)) ⟨vp_in_nI (by omega) (by decide), nm_r (e' := nI (pq_by pk le d.1)) ?_ (px_39 hc hb h)⟩)
    rw [nI_clamp (by omega), y1]
  · have z := pq_by_z (pk := pk) c
    have h' : post (nI le, x_low, x_encoderRange, x_cache, x_pending, nI (d.1 + 1), lN d.2.1, lN ((d.2.2 * 256 + 0) % 4294967296), x_decoderStep, x_pulseCounts, x_coefs, x_energies, x_pulses, x_decoded, x_vec, x_sizes, pk) := by
      rw [← z]; exact h
    by_cases c2 : 64 ≤ d.1
    · exact br_t (nI_le (a := 64) c2 (by omega)) (px_39 (b := 0) hc (by decide) h')
    · exact br_f (nI_ge (b := 64) (by omega) (by decide)) (br_t (nI_le (by omega) (by omega)) (px_39 (b := 0) hc (by decide) h'))
theorem px_sd19 {post : St2 → Prop} (hB : pq_B pk) (hl : le ≤ 64) (h : post (nI le, x_low, x_encoderRange, x_cache, x_pending, nI ((pq_d5 pk le 5)).1, lN ((pq_d5 pk le 5)).2.1, lN ((pq_d5 pk le 5)).2.2, x_decoderStep, x_pulseCounts, x_coefs, x_energies, x_pulses, x_decoded, x_vec, x_sizes, pk)) : ∀ d i, i + d = 5 → wX_startDecoder_19 post (d + 1) (nI i) (nI le) x_low x_encoderRange x_cache x_pending (nI ((pq_d5 pk le i)).1) (lN ((pq_d5 pk le i)).2.1) (lN ((pq_d5 pk le i)).2.2) x_decoderStep x_pulseCounts x_coefs x_energies x_pulses x_decoded x_vec x_sizes pk := by
  intro d
  induction d with
  | zero =>
    intro i hi
    have e : i = 5 := by omega
    subst e
    exact br_t (nI_le (a := 5) (by omega) (by omega)) h
  | succ d ih =>
    intro i hi
    have ⟨a1, _, a3⟩ := pq_d5_s pk le i
    exact br_f (nI_ge (b := 5) (by omega) (by decide)) (px_tk hB hl (by omega) (by omega) (nm_r (nI_1 i) (ih (i + 1) (by omega))))
theorem px_sd {post : St2 → Prop} (hB : pq_B pk) (hl : le ≤ 64) (h : post (nI le, x_low, x_encoderRange, x_cache, x_pending, nI ((pq_d5 pk le 5)).1, lN ((pq_d5 pk le 5)).2.1, lN ((pq_d5 pk le 5)).2.2, x_decoderStep, x_pulseCounts, x_coefs, x_energies, x_pulses, x_decoded, x_vec, x_sizes, pk)) : wpX_startDecoder post (nI le, x_low, x_encoderRange, x_cache, x_pending, x_readPosition, x_decoderRange, x_code, x_decoderStep, x_pulseCounts, x_coefs, x_energies, x_pulses, x_decoded, x_vec, x_sizes, pk) :=
  ⟨6, px_sd19 hB hl h 5 0 (by omega)⟩
theorem px_dn {post : St2 → Prop} {B : Nat} {d : pq_D} (hB : pq_B pk) (hl : le ≤ 64) (h0 : d.1 ≤ B) (hb : B + 2 < 2 ^ 20) (h2 : 256 ≤ d.2.1) (h3 : d.2.1 < 4294967296) (h4 : d.2.2 < 4294967296) (h : post (nI le, x_low, x_encoderRange, x_cache, x_pending, nI ((pq_dn pk le d)).1, lN ((pq_dn pk le d)).2.1, lN ((pq_dn pk le d)).2.2, x_decoderStep, x_pulseCounts, x_coefs, x_energies, x_pulses, x_decoded, x_vec, x_sizes, pk)) : wX_consume_29 post 3 0 (nI le) x_low x_encoderRange x_cache x_pending (nI d.1) (lN d.2.1) (lN d.2.2) x_decoderStep x_pulseCounts x_coefs x_energies x_pulses x_decoded x_vec x_sizes pk := by
  have ⟨t1, t2, t3⟩ := pq_t1_s pk le d
  have ⟨u1, u2, u3⟩ := pq_t1_s pk le (pq_t1 pk le d)
  unfold pq_dn at h
  refine br_f (by decide) ?_
  by_cases c : d.2.1 < 16777216
  · rw [if_pos c] at h
    refine br_f (by rw [pq_rnge (by omega)]; omega) (nm_r (pq_lm256 _) (px_tk (d := (d.1, d.2.1 * 256, d.2.2)) hB hl (by show d.1 < _; omega) (by show d.2.2 < _; omega) (nm_e ?_)))
    refine br_f (by decide) ?_
    by_cases z : (pq_t1 pk le d).2.1 < 16777216
    · rw [if_pos z] at h
      refine br_f (by show ¬ (16777216 : Int64) ≤ lN (pq_t1 pk le d).2.1; rw [pq_rnge (by omega)]; omega) (nm_r (pq_lm256 _) (px_tk (d := ((pq_t1 pk le d).1, (pq_t1 pk le d).2.1 * 256, (pq_t1 pk le d).2.2)) hB hl (by show (pq_t1 pk le d).1 < _; omega) (by show (pq_t1 pk le d).2.2 < _; omega) (nm_e ?_)))
      refine br_f (by decide) (br_t ?_ h)
      show (16777216 : Int64) ≤ lN (pq_t1 pk le (pq_t1 pk le d)).2.1
      rw [pq_rnge (by omega)]
      omega
    · rw [if_neg z] at h
      refine br_t ?_ h
      show (16777216 : Int64) ≤ lN (pq_t1 pk le d).2.1
      rw [pq_rnge (by omega)]
      omega
  · rw [if_neg c] at h
    exact br_t (by rw [pq_rnge (by omega)]; omega) h
theorem pq_tkY {d : pq_D} (hB : pq_B pk) (hl : le ≤ 64) (hc : d.2.2 < 4294967296) : (lN d.2.2 * 256 + (nI (pq_by pk le d.1)).toInt64) &&& 4294967295 = lN ((d.2.2 * 256 + pq_by pk le d.1) % 4294967296) := by
  have hb := pq_by_lt hB hl d.1
  rw [nI_l (by omega), pq_lm256, lN_add, pq_la32 (by omega)]
theorem px_dc {post : St2 → Prop} {B : Nat} {d : pq_D} {total start size : Nat} {p0 p1 : Int32} (hB : pq_B pk) (hl : le ≤ 64) (hD : pq_DI B d) (hb : B + 2 < 2 ^ 20) (h0 : 1 ≤ total) (h1 : total ≤ 65536) (h2 : 1 ≤ size) (h3 : size ≤ total) (hs : start ≤ pq_dv d total) (hs2 : start < 65536) (e0 : p0 = nI start) (e1 : p1 = nI size) (h : post (nI le, x_low, x_encoderRange, x_cache, x_pending, nI ((pq_dc pk le d total start size)).1, lN ((pq_dc pk le d total start size)).2.1, lN ((pq_dc pk le d total start size)).2.2, lN (d.2.1 / total), x_pulseCounts, x_coefs, x_energies, x_pulses, x_decoded, x_vec, x_sizes, pk)) : wpX_consume post (nI le, x_low, x_encoderRange, x_cache, x_pending, nI d.1, lN d.2.1, lN d.2.2, lN (d.2.1 / total), x_pulseCounts, x_coefs, x_energies, x_pulses, x_decoded, x_vec, x_sizes, pk) p0 p1 := by
  subst e0 e1
  have ⟨a, b, c, e⟩ := pq_d0_s (start := start) hD h0 h1 h2 h3
  have m := pq_dv_m hs
  refine nm_r (e' := lN (d.2.2 - d.2.1 / total * start)) (by rw [nI_l (by omega), lN_mul, lN_sub m]) (nm_r (e' := lN (d.2.1 / total * size)) (by rw [nI_l (by omega), lN_mul]) ⟨3, ?_⟩)
  exact px_dn (d := pq_d0 d total start size) hB hl a hb b c e h
theorem px_dv {post : Int32 → St2 → Prop} {B : Nat} {d : pq_D} {total : Nat} {p0 : Int32} (hD : pq_DI B d) (h0 : 1 ≤ total) (h1 : total ≤ 65536) (e0 : p0 = nI total) (h : post (nI (pq_dv d total)) (x_length, x_low, x_encoderRange, x_cache, x_pending, nI d.1, lN d.2.1, lN d.2.2, lN (d.2.1 / total), x_pulseCounts, x_coefs, x_energies, x_pulses, x_decoded, x_vec, x_sizes, x_packet)) : wpX_decodeValue post (x_length, x_low, x_encoderRange, x_cache, x_pending, nI d.1, lN d.2.1, lN d.2.2, x_decoderStep, x_pulseCounts, x_coefs, x_energies, x_pulses, x_decoded, x_vec, x_sizes, x_packet) p0 := by
  subst e0
  obtain ⟨d0, d1, d2, d3⟩ := hD
  have ⟨q1, q2⟩ := pq_r d1 h0 h1
  have q3 : d.2.1 / total ≤ d.2.1 := Nat.div_le_self _ _
  have q4 : d.2.2 / (d.2.1 / total) ≤ d.2.2 := Nat.div_le_self _ _
  have et : (nI total - 1).toInt64 = lN (total - 1) := by rw [show (1 : Int32) = nI 1 from rfl, pk_sub h0, nI_l (by omega)]
  unfold wpX_decodeValue
  dsimp only
  refine px_quo (a := d.2.1) (b := total) rfl (nI_l (by omega)) (by omega) h0 (by omega) (px_quo (a := d.2.2) (b := d.2.1 / total) rfl rfl (by omega) (by omega) (by omega) ?_)
  unfold pq_dv at h
  rw [et]
  by_cases c : total - 1 < d.2.2 / (d.2.1 / total)
  · rw [if_pos c] at h
    refine br_f (by rw [pk_lLE (by omega) (by omega)]; omega) ?_
    rw [lN_i]
    exact h
  · rw [if_neg c] at h
    refine br_t (by rw [pk_lLE (by omega) (by omega)]; omega) ?_
    rw [lN_i]
    exact h
theorem px_du {post : Int32 → St2 → Prop} {B : Nat} {d : pq_D} {total : Nat} {p0 : Int32} (hB : pq_B pk) (hl : le ≤ 64) (hD : pq_DI B d) (hb : B + 2 < 2 ^ 20) (h0 : 1 ≤ total) (h1 : total ≤ 65536) (e0 : p0 = nI total) (h : post (nI (pq_dv d total)) (nI le, x_low, x_encoderRange, x_cache, x_pending, nI ((pq_dc pk le d total (pq_dv d total) 1)).1, lN ((pq_dc pk le d total (pq_dv d total) 1)).2.1, lN ((pq_dc pk le d total (pq_dv d total) 1)).2.2, lN (d.2.1 / total), x_pulseCounts, x_coefs, x_energies, x_pulses, x_decoded, x_vec, x_sizes, pk)) : wpX_decodeUniform post (nI le, x_low, x_encoderRange, x_cache, x_pending, nI d.1, lN d.2.1, lN d.2.2, x_decoderStep, x_pulseCounts, x_coefs, x_energies, x_pulses, x_decoded, x_vec, x_sizes, pk) p0 := by
  subst e0
  have v := pq_dv_lt (d := d) h0
  unfold wpX_decodeUniform
  dsimp only
  refine px_dv hD h0 h1 rfl ?_
  exact px_dc hB hl hD hb h0 h1 (by omega) h0 (Nat.le_refl _) (by omega) rfl rfl h
theorem px_49 {post : Int32 → St2 → Prop} {B s : Nat} {d : pq_D} (hB : pq_B pk) (hl : le ≤ 64) (hD : pq_DI B d) (hb : B + 2 < 2 ^ 20) (hs : s = pq_ds d) (h : post (pq_rs s) (nI le, x_low, x_encoderRange, x_cache, x_pending, nI ((pq_de pk le d)).1, lN ((pq_de pk le d)).2.1, lN ((pq_de pk le d)).2.2, lN (d.2.1 / 150), x_pulseCounts, x_coefs, x_energies, x_pulses, x_decoded, x_vec, x_sizes, pk)) : wX_decodeEnergy_49 post (nI s) (nI (pq_st s)) (nI (pq_f s)) (nI le) x_low x_encoderRange x_cache x_pending (nI d.1) (lN d.2.1) (lN d.2.2) (lN (d.2.1 / 150)) x_pulseCounts x_coefs x_energies x_pulses x_decoded x_vec x_sizes pk := by
  have ⟨s1, s2, s3⟩ := pq_ds_s d
  have ⟨a1, a2, a3⟩ := pq_f_s (pq_ds d) (by omega)
  subst hs
  unfold wX_decodeEnergy_49
  refine px_dc (total := 150) hB hl hD hb (by decide) (by decide) a2 (by omega) s1 (by omega) rfl rfl ⟨by decide, ?_⟩
  unfold pq_rs at h
  by_cases c : nI (pq_ds d) - nI (pq_ds d) / 2 * 2 = 0
  · rw [if_pos c] at h
    exact br_t c ⟨by decide, h⟩
  · rw [if_neg c] at h
    exact br_f c ⟨by decide, h⟩
theorem px_18 {post : Int32 → St2 → Prop} {B : Nat} {d : pq_D} (hB : pq_B pk) (hl : le ≤ 64) (hD : pq_DI B d) (hb : B + 2 < 2 ^ 20) (h : post (pq_rs (pq_ds d)) (nI le, x_low, x_encoderRange, x_cache, x_pending, nI ((pq_de pk le d)).1, lN ((pq_de pk le d)).2.1, lN ((pq_de pk le d)).2.2, lN (d.2.1 / 150), x_pulseCounts, x_coefs, x_energies, x_pulses, x_decoded, x_vec, x_sizes, pk)) : ∀ t i, i + t = pq_ds d → wX_decodeEnergy_18 post (nI (pq_dv d 150)) (nI le) x_low x_encoderRange x_cache x_pending (nI d.1) (lN d.2.1) (lN d.2.2) (lN (d.2.1 / 150)) x_pulseCounts x_coefs x_energies x_pulses x_decoded x_vec x_sizes pk (t + 1) (nI i) (nI (pq_st i)) (nI (pq_f i)) := by
  have ⟨s1, s2, s3⟩ := pq_ds_s d
  have v := pq_dv_lt (d := d) (total := 150) (by decide)
  intro t
  induction t with
  | zero =>
    intro i hi
    have e : i = pq_ds d := by omega
    by_cases c : 66 ≤ i
    · refine br_t (nI_le (a := 66) c (by omega)) ?_
      exact px_49 hB hl hD hb e (by rw [e]; exact h)
    · refine br_f (nI_ge (b := 66) (by omega) (by decide)) (br_t ?_ ?_)
      · rw [nI_add]
        refine nI_lt ?_ ?_
        · rw [e]; exact s2
        · have := (pq_f_s i (by omega)).1
          omega
      · exact px_49 hB hl hD hb e (by rw [e]; exact h)
  | succ t ih =>
    intro i hi
    have m : pq_st (i + 1) ≤ pq_st (pq_ds d) := pq_S_mono pq_f (by omega)
    refine br_f (nI_ge (b := 66) (by omega) (by decide)) (br_f ?_ (nm_r (nI_add _ _) (nm_r (nI_1 i) (px_sym (s := i + 1) rfl (by omega) ?_))))
    · rw [nI_add]
      refine nI_nlt ?_ (by omega)
      show pq_st (i + 1) ≤ _
      omega
    · exact ih (i + 1) (by omega)
theorem px_de {post : Int32 → St2 → Prop} {B : Nat} {d : pq_D} (hB : pq_B pk) (hl : le ≤ 64) (hD : pq_DI B d) (hb : B + 2 < 2 ^ 20) (h : post (pq_rs (pq_ds d)) (nI le, x_low, x_encoderRange, x_cache, x_pending, nI ((pq_de pk le d)).1, lN ((pq_de pk le d)).2.1, lN ((pq_de pk le d)).2.2, lN (d.2.1 / 150), x_pulseCounts, x_coefs, x_energies, x_pulses, x_decoded, x_vec, x_sizes, pk)) : wpX_decodeEnergy post (nI le, x_low, x_encoderRange, x_cache, x_pending, nI d.1, lN d.2.1, lN d.2.2, x_decoderStep, x_pulseCounts, x_coefs, x_energies, x_pulses, x_decoded, x_vec, x_sizes, pk) := by
  unfold wpX_decodeEnergy
  dsimp only
  refine px_dv (total := 150) hD (by decide) (by decide) rfl (px_sym (s := 0) rfl (by decide) ⟨pq_ds d + 1, ?_⟩)
  exact px_18 hB hl hD hb h (pq_ds d) 0 (by omega)
end PQD
