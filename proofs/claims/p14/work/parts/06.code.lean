/-! the range encoder's walks -/
theorem pq_rem256 {a : Nat} (h : a < 2 ^ 31) : nI a - nI a / 256 * 256 = nI (a % 256) := pk_rem (d := 256) h (by decide) (by decide)
theorem pq_and255 {a : Nat} (h : a < 2 ^ 31) : nI a &&& 255 = nI (a % 256) := pk_andN (n := a) (by omega) 8 (by decide)
theorem pq_l24 {a : Nat} (h : a < 2 ^ 62) : ((lN a).toUInt64 >>> ((24 : Int32).toInt64.toUInt64 &&& Int64.toUInt64 63)).toInt64 = lN (a / 16777216) := pf_ushr (d := 24) (by decide) h
theorem pq_l32 {a : Nat} (h : a < 2 ^ 62) : ((lN a).toUInt64 >>> ((32 : Int32).toInt64.toUInt64 &&& Int64.toUInt64 63)).toInt64 = lN (a / 4294967296) := pf_ushr (d := 32) (by decide) h
theorem pq_la255 {a : Nat} (h : a < 2 ^ 64) : lN a &&& 255 = lN (a % 256) := g_mask (s := 8) (p := 256) (by decide) (by decide) h
theorem pq_la24 {a : Nat} (h : a < 2 ^ 64) : lN a &&& 16777215 = lN (a % 16777216) := g_mask (s := 24) (p := 16777216) (by decide) (by decide) h
theorem pq_la32 {a : Nat} (h : a < 2 ^ 64) : lN a &&& 4294967295 = lN (a % 4294967296) := g_mask (s := 32) (p := 4294967296) (by decide) (by decide) h
theorem pq_ld24 {a : Nat} (h : a < 2 ^ 63) : lN a / 16777216 = lN (a / 16777216) := pk_lDiv (b := 16777216) h (by decide) (by decide)
theorem pq_ld32 {a : Nat} (h : a < 2 ^ 63) : lN a / 4294967296 = lN (a / 4294967296) := pk_lDiv (b := 4294967296) h (by decide) (by decide)
theorem pq_lr256 {a : Nat} (h : a < 2 ^ 63) : lN a - lN a / 256 * 256 = lN (a % 256) := pk_lRem (b := 256) h (by decide) (by decide)
theorem pq_lr24 {a : Nat} (h : a < 2 ^ 63) : lN a - lN a / 16777216 * 16777216 = lN (a % 16777216) := pk_lRem (b := 16777216) h (by decide) (by decide)
theorem pq_lr32 {a : Nat} (h : a < 2 ^ 63) : lN a - lN a / 4294967296 * 4294967296 = lN (a % 4294967296) := pk_lRem (b := 4294967296) h (by decide) (by decide)
theorem pq_lm256 (a : Nat) : lN a * 256 = lN (a * 256) := lN_mul a 256
section PQC
variable {x_length x_cache x_pending x_readPosition : Int32} {x_low x_encoderRange x_decoderRange x_code x_decoderStep : Int64} {x_pulseCounts x_coefs x_energies x_pulses x_decoded x_vec x_sizes x_packet : Nat → Int32}
theorem px_emit {post : St2 → Prop} {le x : Nat} {pk : Nat → Int32} {p0 : Int32} (e0 : p0 = nI x) (hl : le ≤ 64) (h : post (nI (pq_em x (le, pk)).1, x_low, x_encoderRange, x_cache, x_pending, x_readPosition, x_decoderRange, x_code, x_decoderStep, x_pulseCounts, x_coefs, x_energies, x_pulses, x_decoded, x_vec, x_sizes, (pq_em x (le, pk)).2)) : wpX_emit post (nI le, x_low, x_encoderRange, x_cache, x_pending, x_readPosition, x_decoderRange, x_code, x_decoderStep, x_pulseCounts, x_coefs, x_energies, x_pulses, x_decoded, x_vec, x_sizes, pk) p0 := by
  subst e0
  refine br_f (nI_pos (by omega)) ?_
  by_cases c : le < 64
  · have e : pq_em x (le, pk) = (le + 1, upd pk le (nI x)) := if_pos c
    rw [e] at h
    exact br_f (nI_ge (b := 64) c (by decide)) ⟨vp_in_nI c (by decide), nm_r (e' := upd pk le (nI x)) (by rw [nI_clamp (by omega)]) (nm_r (nI_1 le) h)⟩
  · have e : pq_em x (le, pk) = (le, pk) := if_neg c
    rw [e] at h
    exact br_t (nI_le (a := 64) (by omega) (by omega)) h
theorem px_97 {post : St2 → Prop} {lo pe : Nat} (hl : lo < 2 ^ 62) (h : post (x_length, lN (lo % 16777216 * 256), x_encoderRange, x_cache, nI (pe + 1), x_readPosition, x_decoderRange, x_code, x_decoderStep, x_pulseCounts, x_coefs, x_energies, x_pulses, x_decoded, x_vec, x_sizes, x_packet)) : wX_shiftLow_97 post x_length (lN lo) x_encoderRange x_cache (nI pe) x_readPosition x_decoderRange x_code x_decoderStep x_pulseCounts x_coefs x_energies x_pulses x_decoded x_vec x_sizes x_packet := by
  refine nm_r (nI_1 pe) ⟨by decide, nm_r (e' := lN (lo % 16777216 * 256)) ?_ h⟩
  rw [pq_lr24 (by omega), pq_lm256]
theorem px_48 {post : St2 → Prop} {lo pe c : Nat} (hl : lo < 2 ^ 62) (hp : pe < 2 ^ 30) (hc : c < 2 ^ 30) : ∀ d i (s : Nat × (Nat → Int32)), d = pe - i → i < 2 ^ 30 → s.1 ≤ 64 → post (nI (pq_en ((255 + c) % 256) d s).1, lN (lo % 16777216 * 256), x_encoderRange, nI (lo / 16777216 % 256), nI 1, x_readPosition, x_decoderRange, x_code, x_decoderStep, x_pulseCounts, x_coefs, x_energies, x_pulses, x_decoded, x_vec, x_sizes, (pq_en ((255 + c) % 256) d s).2) →
    wX_shiftLow_48 post (nI c) (d + 1) (nI i) (nI s.1) (lN lo) x_encoderRange x_cache (nI pe) x_readPosition x_decoderRange x_code x_decoderStep x_pulseCounts x_coefs x_energies x_pulses x_decoded x_vec x_sizes s.2 := by
  intro d
  induction d with
  | zero =>
    intro i s hd hi hs h
    refine br_t (nI_le (by omega) (by omega)) ⟨by decide, by decide, nm_r (e' := nI (lo / 16777216 % 256)) ?_ (px_97 (pe := 0) hl h)⟩
    rw [pq_ld24 (by omega), pq_lr256 (Nat.lt_of_le_of_lt (Nat.div_le_self _ _) (by omega)), lN_i]
  | succ d ih =>
    intro i s hd hi hs h
    refine br_f (nI_ge (by omega) (by omega)) ⟨by decide, px_emit (x := (255 + c) % 256) (le := s.1) (pk := s.2) ?_ hs (nm_r (nI_1 i) (ih (i + 1) (pq_em ((255 + c) % 256) s) (by omega) (by omega) ?_ h))⟩
    · rw [show (255 : Int32) + nI c = nI (255 + c) from nI_add 255 c, pq_rem256 (by omega)]
    · unfold pq_em
      split
      · show s.1 + 1 ≤ 64; omega
      · exact hs
theorem pq_sh_t {e : pq_E} (c : e.1 < 4278190080 ∨ 4294967296 ≤ e.1) : pq_sh e = (e.1 % 16777216 * 256, e.2.1, e.1 / 16777216 % 256, 1, pq_en ((255 + e.1 / 4294967296) % 256) (e.2.2.2.1 - 1) (pq_em ((e.2.2.1 + e.1 / 4294967296) % 256) (e.2.2.2.2.1, e.2.2.2.2.2))) := if_pos c
theorem pq_sh_f {e : pq_E} (c : ¬ (e.1 < 4278190080 ∨ 4294967296 ≤ e.1)) : pq_sh e = (e.1 % 16777216 * 256, e.2.1, e.2.2.1, e.2.2.2.1 + 1, e.2.2.2.2.1, e.2.2.2.2.2) := if_neg c
theorem px_22 {post : St2 → Prop} {B : Nat} {e : pq_E} (hw : pq_EW B e) (hB : B < 2 ^ 20) (hl : e.1 < 2 ^ 40) (c : e.1 < 4278190080 ∨ 4294967296 ≤ e.1) (h : post (nI ((pq_sh e)).2.2.2.2.1, lN ((pq_sh e)).1, lN ((pq_sh e)).2.1, nI ((pq_sh e)).2.2.1, nI ((pq_sh e)).2.2.2.1, x_readPosition, x_decoderRange, x_code, x_decoderStep, x_pulseCounts, x_coefs, x_energies, x_pulses, x_decoded, x_vec, x_sizes, ((pq_sh e)).2.2.2.2.2)) : wX_shiftLow_22 post (nI e.2.2.2.2.1) (lN e.1) (lN e.2.1) (nI e.2.2.1) (nI e.2.2.2.1) x_readPosition x_decoderRange x_code x_decoderStep x_pulseCounts x_coefs x_energies x_pulses x_decoded x_vec x_sizes e.2.2.2.2.2 := by
  obtain ⟨h1, h2, h3, h4⟩ := hw
  rw [pq_sh_t c] at h
  have hc : e.1 / 4294967296 < 2 ^ 30 := by omega
  refine ⟨by decide, nm_r (e' := nI (e.1 / 4294967296)) (by rw [pq_ld32 (by omega), lN_i]) ⟨by decide, px_emit (x := (e.2.2.1 + e.1 / 4294967296) % 256) ?_ h3 ⟨e.2.2.2.1 - 1 + 1, px_48 (by omega) (by omega) hc (e.2.2.2.1 - 1) 1 _ rfl (by omega) (pq_em_s (Nat.mod_lt _ (by decide)) h3 h4).1 h⟩⟩⟩
  rw [nI_add, pq_rem256 (by omega)]
theorem px_sh {post : St2 → Prop} {B : Nat} {e : pq_E} (hw : pq_EW B e) (hB : B < 2 ^ 20) (hl : e.1 < 2 ^ 40) (h : post (nI ((pq_sh e)).2.2.2.2.1, lN ((pq_sh e)).1, lN ((pq_sh e)).2.1, nI ((pq_sh e)).2.2.1, nI ((pq_sh e)).2.2.2.1, x_readPosition, x_decoderRange, x_code, x_decoderStep, x_pulseCounts, x_coefs, x_energies, x_pulses, x_decoded, x_vec, x_sizes, ((pq_sh e)).2.2.2.2.2)) : wpX_shiftLow post (nI e.2.2.2.2.1, lN e.1, lN e.2.1, nI e.2.2.1, nI e.2.2.2.1, x_readPosition, x_decoderRange, x_code, x_decoderStep, x_pulseCounts, x_coefs, x_energies, x_pulses, x_decoded, x_vec, x_sizes, e.2.2.2.2.2) := by
  by_cases a : e.1 < 4278190080
  · exact br_t ((pk_lLT (b := 4278190080) (by omega) (by decide)).mpr a) (px_22 hw hB hl (Or.inl a) h)
  · refine br_f (fun z => a ((pk_lLT (b := 4278190080) (by omega) (by decide)).mp z)) ?_
    by_cases b : e.1 < 4294967296
    · refine br_t ((pk_lLT (b := 4294967296) (by omega) (by decide)).mpr b) ?_
      rw [pq_sh_f (by omega)] at h
      exact px_97 (by omega) h
    · exact br_f (fun z => b ((pk_lLT (b := 4294967296) (by omega) (by decide)).mp z)) (px_22 hw hB hl (Or.inr (by omega)) h)
theorem pq_rnge {a : Nat} (ha : a < 2 ^ 62) : (16777216 : Int64) ≤ lN a ↔ 16777216 ≤ a := pk_lLE (a := 16777216) (by decide) (by omega)
theorem px_rn {post : St2 → Prop} {B : Nat} {e : pq_E} (hw : pq_EW B e) (hB : B + 2 < 2 ^ 20) (hl : e.1 < 2 ^ 40) (h2 : 256 ≤ e.2.1) (h3 : e.2.1 < 4294967296) (h : post (nI ((pq_rn e)).2.2.2.2.1, lN ((pq_rn e)).1, lN ((pq_rn e)).2.1, nI ((pq_rn e)).2.2.1, nI ((pq_rn e)).2.2.2.1, x_readPosition, x_decoderRange, x_code, x_decoderStep, x_pulseCounts, x_coefs, x_energies, x_pulses, x_decoded, x_vec, x_sizes, ((pq_rn e)).2.2.2.2.2)) : wX_codeSymbol_37 post 3 0 (nI e.2.2.2.2.1) (lN e.1) (lN e.2.1) (nI e.2.2.1) (nI e.2.2.2.1) x_readPosition x_decoderRange x_code x_decoderStep x_pulseCounts x_coefs x_energies x_pulses x_decoded x_vec x_sizes e.2.2.2.2.2 := by
  have w1 : pq_EW B (e.1, e.2.1 * 256, e.2.2) := hw
  have l1 : (pq_s1 e).1 < 4294967296 := pq_s1_1 e
  have r1 : (pq_s1 e).2.1 = e.2.1 * 256 := pq_s1_2 e
  have w2 : pq_EW (B + 1) ((pq_s1 e).1, (pq_s1 e).2.1 * 256, (pq_s1 e).2.2) := pq_s1_w hw
  have r2 : (pq_s1 (pq_s1 e)).2.1 = (pq_s1 e).2.1 * 256 := pq_s1_2 _
  unfold pq_rn at h
  refine br_f (by decide) ?_
  by_cases c : e.2.1 < 16777216
  · rw [if_pos c] at h
    refine br_f (by rw [pq_rnge (by omega)]; omega) (nm_r (pq_lm256 _) (px_sh (e := (e.1, e.2.1 * 256, e.2.2)) w1 (by omega) hl (nm_e ?_)))
    refine br_f (by decide) ?_
    by_cases d : (pq_s1 e).2.1 < 16777216
    · rw [if_pos d] at h
      refine br_f (by show ¬ (16777216 : Int64) ≤ lN (pq_s1 e).2.1; rw [pq_rnge (by omega)]; omega) (nm_r (pq_lm256 _) (px_sh (e := ((pq_s1 e).1, (pq_s1 e).2.1 * 256, (pq_s1 e).2.2)) w2 (by omega) (by show (pq_s1 e).1 < _; omega) (nm_e ?_)))
      refine br_f (by decide) (br_t ?_ h)
      show (16777216 : Int64) ≤ lN (pq_s1 (pq_s1 e)).2.1
      rw [pq_rnge (by omega)]
      omega
    · rw [if_neg d] at h
      refine br_t ?_ h
      show (16777216 : Int64) ≤ lN (pq_s1 e).2.1
      rw [pq_rnge (by omega)]
      omega
  · rw [if_neg c] at h
    exact br_t (by rw [pq_rnge (by omega)]; omega) h
theorem px_cd {post : St2 → Prop} {B : Nat} {e : pq_E} {start size total : Nat} {p0 p1 p2 : Int32} (hE : pq_EI B e) (hB : B + 2 < 2 ^ 20) (h0 : 1 ≤ total) (h1 : total ≤ 65536) (h2 : 1 ≤ size) (h3 : start + size ≤ total) (e0 : p0 = nI start) (e1 : p1 = nI size) (e2 : p2 = nI total) (h : post (nI ((pq_cd e start size total)).2.2.2.2.1, lN ((pq_cd e start size total)).1, lN ((pq_cd e start size total)).2.1, nI ((pq_cd e start size total)).2.2.1, nI ((pq_cd e start size total)).2.2.2.1, x_readPosition, x_decoderRange, x_code, x_decoderStep, x_pulseCounts, x_coefs, x_energies, x_pulses, x_decoded, x_vec, x_sizes, ((pq_cd e start size total)).2.2.2.2.2)) : wpX_codeSymbol post (nI e.2.2.2.2.1, lN e.1, lN e.2.1, nI e.2.2.1, nI e.2.2.2.1, x_readPosition, x_decoderRange, x_code, x_decoderStep, x_pulseCounts, x_coefs, x_energies, x_pulses, x_decoded, x_vec, x_sizes, e.2.2.2.2.2) p0 p1 p2 := by
  subst e0 e1 e2
  have ⟨a, b, c⟩ := pq_c0_s hE h0 h1 h2 h3
  have r1 := hE.2.2.2
  unfold wpX_codeSymbol
  dsimp only
  refine px_quo (a := e.2.1) (b := total) rfl (nI_l (by omega)) (by omega) h0 (by omega) ?_
  refine nm_r (e' := lN (e.1 + e.2.1 / total * start)) (by rw [nI_l (by omega), lN_mul, lN_add]) (nm_r (e' := lN (e.2.1 / total * size)) (by rw [nI_l (by omega), lN_mul]) ⟨3, ?_⟩)
  exact px_rn (e := pq_c0 e start size total) hE.1 hB (by omega) b c h
end PQC
