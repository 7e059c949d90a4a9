/-! a frame, encoded by the reference -/
section PQB
variable {x_length x_cache x_pending x_readPosition : Int32} {x_low x_encoderRange x_decoderRange x_code x_decoderStep : Int64} {x_pulseCounts x_coefs x_energies x_pulses x_decoded x_vec x_sizes x_packet : Nat → Int32}
variable {y_pktLen y_pending y_rpos : Int32} {y_low y_rng y_cache y_drng y_dcode y_dr : Int64} {y_kb y_inp y_encQ y_encP y_decQ y_decP y_decC y_pkt y_vec y_work y_vt : Nat → Int32}
variable {b : Nat}
theorem py_ue {post : SY → Prop} {B k idx : Nat} {e : pq_E} {p0 p1 : Int32} (hk : k ≤ 16) (hE : pq_EI B e) (hB : B + 4 < 2 ^ 20) (hlt : idx < pq_V 8 k) (e0 : p0 = nI idx) (e1 : p1 = nI (pq_V 8 k)) (h : post (nI ((pq_cp e k idx)).2.2.2.2.1, lN ((pq_cp e k idx)).1, lN ((pq_cp e k idx)).2.1, lN ((pq_cp e k idx)).2.2.1, nI ((pq_cp e k idx)).2.2.2.1, y_rpos, y_drng, y_dcode, y_dr, y_kb, y_inp, y_encQ, y_encP, y_decQ, y_decP, y_decC, ((pq_cp e k idx)).2.2.2.2.2, y_vec, y_work, y_vt)) : wpY_uniformEnc post (nI e.2.2.2.2.1, lN e.1, lN e.2.1, lN e.2.2.1, nI e.2.2.2.1, y_rpos, y_drng, y_dcode, y_dr, y_kb, y_inp, y_encQ, y_encP, y_decQ, y_decP, y_decC, e.2.2.2.2.2, y_vec, y_work, y_vt) p0 p1 := by
  subst e0 e1
  have hV := pq_Vle (n := 8) (k := k) (by omega) hk
  unfold pq_cp at h
  by_cases c : pq_V 8 k ≤ 65536
  · rw [if_pos c] at h
    exact br_f (nI_nlt (a := 65536) c (by decide)) (py_cd hE (by omega) (by omega) c (Nat.le_refl _) (by omega) (nI_l (by omega)) rfl (nI_l (by omega)) h)
  · rw [if_neg c] at h
    have ⟨a1, a2, a3, a4⟩ := pq_ap_s k (by omega) (by omega)
    have ⟨p1, p2⟩ := pq_ap_p _ a2
    have m : idx / 2 ^ pq_ap k ≤ (pq_V 8 k - 1) / 2 ^ pq_ap k := Nat.div_le_div_right (by omega)
    have r : idx % 2 ^ pq_ap k < 2 ^ pq_ap k := Nat.mod_lt _ p1
    have q1 : idx / 2 ^ pq_ap k ≤ idx := Nat.div_le_self _ _
    have q2 : idx % 2 ^ pq_ap k ≤ idx := Nat.mod_le _ _
    have e1 := pq_cd_s (start := idx / 2 ^ pq_ap k) (size := 1) (total := (pq_V 8 k - 1) / 2 ^ pq_ap k + 1) hE (Nat.succ_pos _) a3 (Nat.le_refl _) (Nat.succ_le_succ m)
    refine br_t (nI_lt (a := 65536) (by omega) (by omega)) (nm_r (pq_i1 (by omega)) (py_bl (nI_l (by omega)) (by omega) (nm_r (e' := nI (pq_ap k)) ?_ ?_)))
    · rw [a4, show (16 : Int32) = nI 16 from rfl, pk_sub (by omega), Nat.add_sub_cancel]
    · refine py_cd hE (by omega) (Nat.succ_pos _) a3 (Nat.le_refl _) (Nat.succ_le_succ m) ?_ rfl ?_ (py_cd e1 (by omega) p1 (Nat.le_trans p2 (by decide)) (Nat.le_refl _) r ?_ rfl ?_ h)
      · rw [pq_shV (by omega) a2, nI_l (by omega)]
      · rw [pq_shV (by omega) a2, nI_1, nI_l (by omega)]
      · rw [pq_anV (by omega) a2, nI_l (by omega)]
      · rw [pq_p2 _ a2, nI_l (by omega)]
theorem py_266 {post : Int32 → SY → Prop} : ∀ d i (e : pq_E) (B : Nat), i + d = 5 → pq_EW B e → B + d < 2 ^ 20 → e.1 < 2 ^ 40 → post (nI (pq_fl d e).2.2.2.2.1) (nI ((pq_fl d e)).2.2.2.2.1, lN ((pq_fl d e)).1, lN ((pq_fl d e)).2.1, lN ((pq_fl d e)).2.2.1, nI ((pq_fl d e)).2.2.2.1, y_rpos, y_drng, y_dcode, y_dr, y_kb, y_inp, y_encQ, y_encP, y_decQ, y_decP, y_decC, ((pq_fl d e)).2.2.2.2.2, y_vec, y_work, y_vt) → wY_encodeFrame_266 post (d + 1) (nI i) (nI e.2.2.2.2.1) (lN e.1) (lN e.2.1) (lN e.2.2.1) (nI e.2.2.2.1) y_rpos y_drng y_dcode y_dr y_kb y_inp y_encQ y_encP y_decQ y_decP y_decC e.2.2.2.2.2 y_vec y_work y_vt := by
  intro d
  induction d with
  | zero =>
    intro i e B hi hw hB hl h
    exact br_t (nI_le (a := 5) (by omega) (by omega)) h
  | succ d ih =>
    intro i e B hi hw hB hl h
    have := pq_sh_1 e
    exact br_f (nI_ge (b := 5) (by omega) (by decide)) (py_sh hw (by omega) hl (nm_r (nI_1 i) (ih (i + 1) (pq_sh e) (B + 1) (by omega) (pq_sh_w hw) (by omega) (by omega) h)))
theorem py_226 {post : Int32 → SY → Prop} {J : Int32 → Int32 → Int64 → Int64 → Int64 → Int32 → Int32 → Int64 → Int64 → Int64 → (Nat → Int32) → (Nat → Int32) → (Nat → Int32) → (Nat → Int32) → (Nat → Int32) → (Nat → Int32) → (Nat → Int32) → (Nat → Int32) → (Nat → Int32) → (Nat → Int32) → (Nat → Int32) → Prop} (hb : b < 4)
    (K : ∀ pu : Nat → Int32, (∀ j, j < 8 → pu (8 * b + j) = y_work j) → (∀ i, (i < 8 * b ∨ 8 * b + 8 ≤ i) → pu i = y_encP i) → J (nI (b + 1)) y_pktLen y_low y_rng y_cache y_pending y_rpos y_drng y_dcode y_dr y_kb y_inp y_encQ pu y_decQ y_decP y_decC y_pkt y_vec y_work y_vt) : ∀ d j (pu : Nat → Int32), j + d = 8 → (∀ t, t < j → pu (8 * b + t) = y_work t) → (∀ i, (i < 8 * b ∨ 8 * b + 8 ≤ i) → pu i = y_encP i) →
    wY_encodeFrame_226 post J (nI b) y_pktLen y_low y_rng y_cache y_pending y_rpos y_drng y_dcode y_dr (d + 1) (nI j) y_kb y_inp y_encQ pu y_decQ y_decP y_decC y_pkt y_vec y_work y_vt := by
  intro d
  induction d with
  | zero =>
    intro j pu hj h1 h2
    have e : j = 8 := by omega
    subst e
    exact br_t (nI_le (a := 8) (Nat.le_refl _) (by decide)) (nm_r (nI_1 b) (K pu h1 h2))
  | succ d ih =>
    intro j pu hj h1 h2
    refine br_f (nI_ge (b := 8) (by omega) (by decide)) ⟨vp_in_nI (by omega) (by decide), pk_in (8 * b + j) 32 (by omega) (pq_8i _ _), nm_r (e' := upd pu (8 * b + j) (y_work j)) (by rw [pq_8i, nI_clamp (by omega), nI_clamp (by omega)]) (nm_r (nI_1 j) (ih (j + 1) _ (by omega) ?_ ?_))⟩
    · intro t ht
      by_cases z : t = j
      · subst z; exact pk_us
      · rw [pk_un (by omega)]; exact h1 t (by omega)
    · intro i hi
      rw [pk_un (by omega)]
      exact h2 i hi
theorem py_143 {post : Int32 → SY → Prop} {J : Int32 → Int32 → Int64 → Int64 → Int64 → Int32 → Int32 → Int64 → Int64 → Int64 → (Nat → Int32) → (Nat → Int32) → (Nat → Int32) → (Nat → Int32) → (Nat → Int32) → (Nat → Int32) → (Nat → Int32) → (Nat → Int32) → (Nat → Int32) → (Nat → Int32) → (Nat → Int32) → Prop} {B s : Nat} {e : pq_E} {x4 : Int32} (hb : b < 4) (ht : pq_tb y_vt) (hk : pq_HK y_kb) (hs : s < 67) (hE : pq_EI B e) (hB : B + 6 < 2 ^ 20)
    (K : ∀ wk pu : Nat → Int32, (∀ j, j < 8 → pu (8 * b + j) = pq_yv y_inp b (pq_k y_kb b) j) → (∀ i, (i < 8 * b ∨ 8 * b + 8 ≤ i) → pu i = y_encP i) →
      J (nI (b + 1)) (nI ((pq_cp (pq_cd e (pq_st s) (pq_f s) 150) (pq_k y_kb b) (pq_id y_inp y_kb b))).2.2.2.2.1) (lN ((pq_cp (pq_cd e (pq_st s) (pq_f s) 150) (pq_k y_kb b) (pq_id y_inp y_kb b))).1) (lN ((pq_cp (pq_cd e (pq_st s) (pq_f s) 150) (pq_k y_kb b) (pq_id y_inp y_kb b))).2.1) (lN ((pq_cp (pq_cd e (pq_st s) (pq_f s) 150) (pq_k y_kb b) (pq_id y_inp y_kb b))).2.2.1) (nI ((pq_cp (pq_cd e (pq_st s) (pq_f s) 150) (pq_k y_kb b) (pq_id y_inp y_kb b))).2.2.2.1) y_rpos y_drng y_dcode y_dr y_kb y_inp (upd y_encQ b x4) pu y_decQ y_decP y_decC (((pq_cp (pq_cd e (pq_st s) (pq_f s) 150) (pq_k y_kb b) (pq_id y_inp y_kb b))).2.2.2.2.2) y_vec wk y_vt) :
    wY_encodeFrame_143 post J (nI b) x4 (nI s) (nI e.2.2.2.2.1) (lN e.1) (lN e.2.1) (lN e.2.2.1) (nI e.2.2.2.1) y_rpos y_drng y_dcode y_dr y_kb y_inp y_encQ y_encP y_decQ y_decP y_decC e.2.2.2.2.2 y_vec y_work y_vt := by
  have ⟨k1, k2, k3⟩ := pq_k_s hk hb
  have ⟨a1, a2, a3⟩ := pq_f_s s hs
  have hE2 := pq_cd_s hE (by decide) (by decide) a2 a1
  unfold wY_encodeFrame_143
  refine py_st rfl (by omega) (py_freq rfl (by omega) (py_cd hE (by omega) (by decide) (by decide) a2 a1 (nI_l (by omega)) (nI_l (by omega)) rfl ?_))
  refine py_search rfl hb hk ?_
  intro wk g1
  have iM : pq_M wk 0 8 = pq_k y_kb b := by
    rw [pq_M_ext 8 0 (fun j _ hj => g1 j (by omega))]
    exact pq_yv_M y_inp b k2
  have ix : pq_ix wk 0 8 (pq_k y_kb b) = pq_id y_inp y_kb b := pq_ix_ext 8 0 _ (fun j _ hj => g1 j (by omega))
  refine ⟨vp_in_nI hb (by decide), ?_⟩
  rw [nI_clamp (by omega), k3]
  refine py_ix (n := 8) (k := pq_k y_kb b) ht (by omega) k2 iM rfl rfl ⟨vp_in_nI hb (by decide), ?_⟩
  rw [ix]
  refine py_vv (n := 8) (k := pq_k y_kb b) ht (by omega) k2 rfl rfl (py_ue k2 hE2 (by omega) (pq_id_lt y_inp hk hb) rfl rfl ⟨vp_in_nI hb (by decide), nm_r (e' := upd y_encQ b x4) rfl ⟨9, ?_⟩⟩)
  refine py_226 hb ?_ 8 0 y_encP (by omega) (fun t h => absurd h (Nat.not_lt_zero t)) (fun _ _ => rfl)
  intro pu u1 u2
  refine K wk pu ?_ u2
  intro j hj
  rw [u1 j hj, g1 j hj]
theorem py_60 {post : Int32 → SY → Prop} {J : Int32 → Int32 → Int64 → Int64 → Int64 → Int32 → Int32 → Int64 → Int64 → Int64 → (Nat → Int32) → (Nat → Int32) → (Nat → Int32) → (Nat → Int32) → (Nat → Int32) → (Nat → Int32) → (Nat → Int32) → (Nat → Int32) → (Nat → Int32) → (Nat → Int32) → (Nat → Int32) → Prop} {B qo : Nat} {e : pq_E} (hb : b < 4) (ht : pq_tb y_vt) (hc : pq_HC y_inp) (hk : pq_HK y_kb) (hqo : qo ≤ 33) (hq : y_encQ b = nI qo) (hE : pq_EI B e) (hB : B + 6 < 2 ^ 20)
    (K : ∀ wk pu : Nat → Int32, (∀ j, j < 8 → pu (8 * b + j) = pq_yv y_inp b (pq_k y_kb b) j) → (∀ i, (i < 8 * b ∨ 8 * b + 8 ≤ i) → pu i = y_encP i) →
      J (nI (b + 1)) (nI ((pq_cp (pq_cd e (pq_st (pq_sm (pq_q y_inp b) ((3 * qo + 2) / 4))) (pq_f (pq_sm (pq_q y_inp b) ((3 * qo + 2) / 4))) 150) (pq_k y_kb b) (pq_id y_inp y_kb b))).2.2.2.2.1) (lN ((pq_cp (pq_cd e (pq_st (pq_sm (pq_q y_inp b) ((3 * qo + 2) / 4))) (pq_f (pq_sm (pq_q y_inp b) ((3 * qo + 2) / 4))) 150) (pq_k y_kb b) (pq_id y_inp y_kb b))).1) (lN ((pq_cp (pq_cd e (pq_st (pq_sm (pq_q y_inp b) ((3 * qo + 2) / 4))) (pq_f (pq_sm (pq_q y_inp b) ((3 * qo + 2) / 4))) 150) (pq_k y_kb b) (pq_id y_inp y_kb b))).2.1) (lN ((pq_cp (pq_cd e (pq_st (pq_sm (pq_q y_inp b) ((3 * qo + 2) / 4))) (pq_f (pq_sm (pq_q y_inp b) ((3 * qo + 2) / 4))) 150) (pq_k y_kb b) (pq_id y_inp y_kb b))).2.2.1) (nI ((pq_cp (pq_cd e (pq_st (pq_sm (pq_q y_inp b) ((3 * qo + 2) / 4))) (pq_f (pq_sm (pq_q y_inp b) ((3 * qo + 2) / 4))) 150) (pq_k y_kb b) (pq_id y_inp y_kb b))).2.2.2.1) y_rpos y_drng y_dcode y_dr y_kb y_inp (upd y_encQ b (nI (pq_q y_inp b))) pu y_decQ y_decP y_decC (((pq_cp (pq_cd e (pq_st (pq_sm (pq_q y_inp b) ((3 * qo + 2) / 4))) (pq_f (pq_sm (pq_q y_inp b) ((3 * qo + 2) / 4))) 150) (pq_k y_kb b) (pq_id y_inp y_kb b))).2.2.2.2.2) y_vec wk y_vt) : ∀ d j, j + d = 8 →
    wY_encodeFrame_60 post J (nI b) (nI e.2.2.2.2.1) (lN e.1) (lN e.2.1) (lN e.2.2.1) (nI e.2.2.2.1) y_rpos y_drng y_dcode y_dr y_kb y_inp y_encQ y_encP y_decQ y_decP y_decC e.2.2.2.2.2 y_vec y_work y_vt (d + 1) (lN (pq_S (fun j => pq_mg (y_inp (8 * b + j)) * pq_mg (y_inp (8 * b + j))) j)) (nI j) := by
  have hq1 := pq_q_le hc hb
  have he := pq_e_lt hc hb
  have hs := pq_sm_le hq1 (show (3 * qo + 2) / 4 ≤ 25 by omega)
  intro d
  induction d with
  | zero =>
    intro j hj
    have e8 : j = 8 := by omega
    subst e8
    have G : wY_encodeFrame_143 post J (nI b) (nI (pq_q y_inp b)) (nI (pq_sm (pq_q y_inp b) ((3 * qo + 2) / 4))) (nI e.2.2.2.2.1) (lN e.1) (lN e.2.1) (lN e.2.2.1) (nI e.2.2.2.1) y_rpos y_drng y_dcode y_dr y_kb y_inp y_encQ y_encP y_decQ y_decP y_decC e.2.2.2.2.2 y_vec y_work y_vt := py_143 hb ht hk hs hE hB K
    refine br_t (nI_le (a := 8) (Nat.le_refl _) (by decide)) (py_bl (M := pq_e y_inp b) rfl (by omega) ⟨vp_in_nI hb (by decide), by decide, nm_r (e' := nI ((3 * qo + 2) / 4)) (by rw [nI_clamp (by omega), hq, pq_pred hqo]) (nm_e ?_)⟩)
    by_cases c : (3 * qo + 2) / 4 ≤ pq_q y_inp b
    · have e2 : pq_sm (pq_q y_inp b) ((3 * qo + 2) / 4) = 2 * (pq_q y_inp b - (3 * qo + 2) / 4) := if_pos c
      refine br_f (by show ¬ nI (pq_q y_inp b) - _ < 0; rw [pk_sub c]; exact nI_pos (by omega)) ?_
      have e3 : 2 * (nI (pq_bl (pq_e y_inp b)) - nI ((3 * qo + 2) / 4)) = nI (pq_sm (pq_q y_inp b) ((3 * qo + 2) / 4)) := by rw [e2]; exact pq_pos2 c
      rw [e3]
      exact G
    · have e2 : pq_sm (pq_q y_inp b) ((3 * qo + 2) / 4) = 2 * ((3 * qo + 2) / 4 - pq_q y_inp b) - 1 := if_neg c
      refine br_t (pk_sneg (a := pq_q y_inp b) (by omega) (by omega)) ?_
      have e3 : (-2) * (nI (pq_bl (pq_e y_inp b)) - nI ((3 * qo + 2) / 4)) - 1 = nI (pq_sm (pq_q y_inp b) ((3 * qo + 2) / 4)) := by rw [e2]; exact pq_neg2 (q := pq_q y_inp b) (by omega)
      rw [e3]
      exact G
  | succ d ih =>
    intro j hj
    refine br_f (nI_ge (b := 8) (by omega) (by decide)) ⟨pk_in (8 * b + j) 32 (by omega) (pq_8i _ _), nm_r (e' := (y_inp (8 * b + j)).toInt64) (by rw [pq_8i, nI_clamp (by omega)]) (nm_r ?_ (nm_r (nI_1 j) (ih (j + 1) (by omega))))⟩
    rw [pq_mgL, lN_add]
    rfl
theorem py_50 {post : Int32 → SY → Prop} {pk : Nat → Int32} (hp : pq_B pk) (ht : pq_tb y_vt) (hc : pq_HC y_inp) (hk : pq_HK y_kb) (hq : pq_HQ y_encQ)
    (K : ∀ en pu wk : Nat → Int32, (∀ j, j < 4 → en j = nI (pq_q y_inp j)) → (∀ c j, c < 4 → j < 8 → pu (8 * c + j) = pq_yv y_inp c (pq_k y_kb c) j) →
      post (nI (pq_fl 5 (pq_eb pk y_inp y_kb y_encQ 4)).2.2.2.2.1) (nI ((pq_fl 5 (pq_eb pk y_inp y_kb y_encQ 4))).2.2.2.2.1, lN ((pq_fl 5 (pq_eb pk y_inp y_kb y_encQ 4))).1, lN ((pq_fl 5 (pq_eb pk y_inp y_kb y_encQ 4))).2.1, lN ((pq_fl 5 (pq_eb pk y_inp y_kb y_encQ 4))).2.2.1, nI ((pq_fl 5 (pq_eb pk y_inp y_kb y_encQ 4))).2.2.2.1, y_rpos, y_drng, y_dcode, y_dr, y_kb, y_inp, en, pu, y_decQ, y_decP, y_decC, ((pq_fl 5 (pq_eb pk y_inp y_kb y_encQ 4))).2.2.2.2.2, y_vec, wk, y_vt)) :
    ∀ d b (en pu wk : Nat → Int32), b + d = 4 → (∀ j, j < b → en j = nI (pq_q y_inp j)) → (∀ j, b ≤ j → en j = y_encQ j) → (∀ c j, c < b → j < 8 → pu (8 * c + j) = pq_yv y_inp c (pq_k y_kb c) j) →
    wY_encodeFrame_50 post (d + 1) (nI b) (nI ((pq_eb pk y_inp y_kb y_encQ b)).2.2.2.2.1) (lN ((pq_eb pk y_inp y_kb y_encQ b)).1) (lN ((pq_eb pk y_inp y_kb y_encQ b)).2.1) (lN ((pq_eb pk y_inp y_kb y_encQ b)).2.2.1) (nI ((pq_eb pk y_inp y_kb y_encQ b)).2.2.2.1) y_rpos y_drng y_dcode y_dr y_kb y_inp en pu y_decQ y_decP y_decC (((pq_eb pk y_inp y_kb y_encQ b)).2.2.2.2.2) y_vec wk y_vt := by
  intro d
  induction d with
  | zero =>
    intro b en pu wk hb h1 h2 h3
    have e : b = 4 := by omega
    subst e
    have hE := pq_eb_s hp hc hk hq 4 (by omega)
    exact br_t (nI_le (a := 4) (Nat.le_refl _) (by decide)) ⟨6, py_266 5 0 _ _ (by omega) hE.1 (by omega) (by have := hE.2.1; omega) (K en pu wk h1 h3)⟩
  | succ d ih =>
    intro b en pu wk hb h1 h2 h3
    have hb4 : b < 4 := by omega
    have hE := pq_eb_s hp hc hk hq b (by omega)
    have ⟨hq2, hq3⟩ := pq_q_s hq hb4
    refine br_f (nI_ge (b := 4) (by omega) (by decide)) ⟨9, py_60 (qo := pq_k y_encQ b) hb4 ht hc hk hq2 (by rw [h2 b (Nat.le_refl _)]; exact hq3) hE (by omega) ?_ 8 0 (by omega)⟩
    intro wk' pu' g1 g2
    refine ih (b + 1) _ pu' wk' (by omega) ?_ ?_ ?_
    · intro j hj
      by_cases z : j = b
      · subst z; exact pk_us
      · rw [pk_un z]; exact h1 j (by omega)
    · intro j hj
      rw [pk_un (by omega)]
      exact h2 j (by omega)
    · intro c j hc2 hj
      by_cases z : c = b
      · subst z; exact g1 j hj
      · rw [g2 _ (by omega)]; exact h3 c j (by omega) hj
theorem py_e2 {post : Int32 → SY → Prop} (hp : pq_B y_pkt) (ht : pq_tb y_vt) (hc : pq_HC y_inp) (hk : pq_HK y_kb) (hq : pq_HQ y_encQ)
    (K : ∀ en pu wk : Nat → Int32, (∀ j, j < 4 → en j = nI (pq_q y_inp j)) → (∀ c j, c < 4 → j < 8 → pu (8 * c + j) = pq_yv y_inp c (pq_k y_kb c) j) →
      post (nI (pq_fl 5 (pq_eb (pq_clr y_pkt 64) y_inp y_kb y_encQ 4)).2.2.2.2.1) (nI ((pq_fl 5 (pq_eb (pq_clr y_pkt 64) y_inp y_kb y_encQ 4))).2.2.2.2.1, lN ((pq_fl 5 (pq_eb (pq_clr y_pkt 64) y_inp y_kb y_encQ 4))).1, lN ((pq_fl 5 (pq_eb (pq_clr y_pkt 64) y_inp y_kb y_encQ 4))).2.1, lN ((pq_fl 5 (pq_eb (pq_clr y_pkt 64) y_inp y_kb y_encQ 4))).2.2.1, nI ((pq_fl 5 (pq_eb (pq_clr y_pkt 64) y_inp y_kb y_encQ 4))).2.2.2.1, y_rpos, y_drng, y_dcode, y_dr, y_kb, y_inp, en, pu, y_decQ, y_decP, y_decC, ((pq_fl 5 (pq_eb (pq_clr y_pkt 64) y_inp y_kb y_encQ 4))).2.2.2.2.2, y_vec, wk, y_vt)) : ∀ d i, i + d = 64 →
    wY_encodeFrame_2 post y_pktLen y_low y_rng y_cache y_pending y_rpos y_drng y_dcode y_dr (d + 1) (nI i) y_kb y_inp y_encQ y_encP y_decQ y_decP y_decC (pq_clr y_pkt i) y_vec y_work y_vt := by
  intro d
  induction d with
  | zero =>
    intro i hi
    have e : i = 64 := by omega
    subst e
    exact br_t (nI_le (a := 64) (Nat.le_refl _) (by decide)) ⟨5, py_50 (pq_clr_B hp 64) ht hc hk hq K 4 0 y_encQ y_encP y_work (by omega) (fun j h => absurd h (Nat.not_lt_zero j)) (fun _ _ => rfl) (fun c _ h => absurd h (Nat.not_lt_zero c))⟩
  | succ d ih =>
    intro i hi
    exact br_f (nI_ge (b := 64) (by omega) (by decide)) ⟨vp_in_nI (by omega) (by decide), nm_r (e' := pq_clr y_pkt (i + 1)) (by rw [nI_clamp (by omega)]; rfl) (nm_r (nI_1 i) (ih (i + 1) (by omega)))⟩
theorem py_encode {post : Int32 → SY → Prop} (hp : pq_B y_pkt) (ht : pq_tb y_vt) (hc : pq_HC y_inp) (hk : pq_HK y_kb) (hq : pq_HQ y_encQ)
    (K : ∀ en pu wk : Nat → Int32, (∀ j, j < 4 → en j = nI (pq_q y_inp j)) → (∀ c j, c < 4 → j < 8 → pu (8 * c + j) = pq_yv y_inp c (pq_k y_kb c) j) →
      post (nI (pq_fl 5 (pq_eb (pq_clr y_pkt 64) y_inp y_kb y_encQ 4)).2.2.2.2.1) (nI ((pq_fl 5 (pq_eb (pq_clr y_pkt 64) y_inp y_kb y_encQ 4))).2.2.2.2.1, lN ((pq_fl 5 (pq_eb (pq_clr y_pkt 64) y_inp y_kb y_encQ 4))).1, lN ((pq_fl 5 (pq_eb (pq_clr y_pkt 64) y_inp y_kb y_encQ 4))).2.1, lN ((pq_fl 5 (pq_eb (pq_clr y_pkt 64) y_inp y_kb y_encQ 4))).2.2.1, nI ((pq_fl 5 (pq_eb (pq_clr y_pkt 64) y_inp y_kb y_encQ 4))).2.2.2.1, y_rpos, y_drng, y_dcode, y_dr, y_kb, y_inp, en, pu, y_decQ, y_decP, y_decC, ((pq_fl 5 (pq_eb (pq_clr y_pkt 64) y_inp y_kb y_encQ 4))).2.2.2.2.2, y_vec, wk, y_vt)) : wpY_encodeFrame post (y_pktLen, y_low, y_rng, y_cache, y_pending, y_rpos, y_drng, y_dcode, y_dr, y_kb, y_inp, y_encQ, y_encP, y_decQ, y_decP, y_decC, y_pkt, y_vec, y_work, y_vt) :=
  ⟨65, py_e2 hp ht hc hk hq K 64 0 (by omega)⟩
end PQB
