/-! a frame, decoded by the reference -/
theorem pq_z_le {k r : Nat} (hk : k ≤ 16) (hr : r < pq_V 8 k) : pq_z 8 k r ≤ 8 * (16 * 16) :=
  pq_S_le _ _ 8 (fun j hj => Nat.mul_le_mul (pq_y_mg (by omega) hk hr hj) (pq_y_mg (by omega) hk hr hj))
section PQY
variable {x_length x_cache x_pending x_readPosition : Int32} {x_low x_encoderRange x_decoderRange x_code x_decoderStep : Int64} {x_pulseCounts x_coefs x_energies x_pulses x_decoded x_vec x_sizes x_packet : Nat → Int32}
variable {y_pktLen y_pending y_rpos : Int32} {y_low y_rng y_cache y_drng y_dcode y_dr : Int64} {y_kb y_inp y_encQ y_encP y_decQ y_decP y_decC y_pkt y_vec y_work y_vt : Nat → Int32}
variable {b : Nat} {pk : Nat → Int32} {le : Nat}
variable {J : Int32 → Int32 → Int64 → Int64 → Int64 → Int32 → Int32 → Int64 → Int64 → Int64 → (Nat → Int32) → (Nat → Int32) → (Nat → Int32) → (Nat → Int32) → (Nat → Int32) → (Nat → Int32) → (Nat → Int32) → (Nat → Int32) → (Nat → Int32) → (Nat → Int32) → (Nat → Int32) → Prop}
theorem py_423 {post : SY → Prop} {Y : Nat → Int32} {q sq : Nat} (hb : b < 4) (hq : q ≤ 33) (hY : ∀ t, t < 8 → y_work t = Y t) (hm : ∀ t, t < 8 → pq_mg (Y t) ≤ 16) (hs : ∀ t, t < 8 → pq_mg (Y t) * pq_mg (Y t) ≤ sq) (hs1 : 1 ≤ sq) (hs2 : sq < 2 ^ 31)
    (K : ∀ de : Nat → Int32, (∀ j, j < 8 → de (8 * b + j) = pq_sc (Y j) q sq) → (∀ i, (i < 8 * b ∨ 8 * b + 8 ≤ i) → de i = y_decC i) → J (nI (b + 1)) y_pktLen y_low y_rng y_cache y_pending y_rpos y_drng y_dcode y_dr y_kb y_inp y_encQ y_encP y_decQ y_decP de y_pkt y_vec y_work y_vt) : ∀ d j (de : Nat → Int32), j + d = 8 → (∀ t, t < j → de (8 * b + t) = pq_sc (Y t) q sq) → (∀ i, (i < 8 * b ∨ 8 * b + 8 ≤ i) → de i = y_decC i) →
    wY_decodeFrame_423 post J (nI b) (nI q) (lN sq) y_pktLen y_low y_rng y_cache y_pending y_rpos y_drng y_dcode y_dr (d + 1) (nI j) y_kb y_inp y_encQ y_encP y_decQ y_decP de y_pkt y_vec y_work y_vt := by
  intro d
  induction d with
  | zero =>
    intro j de hj h1 h2
    have e : j = 8 := by omega
    subst e
    exact br_t (nI_le (a := 8) (Nat.le_refl _) (by decide)) (nm_r (nI_1 b) (K de h1 h2))
  | succ d ih =>
    intro j de hj h1 h2
    have IH : ∀ z, z = pq_sc (Y j) q sq → wY_decodeFrame_423 post J (nI b) (nI q) (lN sq) y_pktLen y_low y_rng y_cache y_pending y_rpos y_drng y_dcode y_dr (d + 1) (nI (j + 1)) y_kb y_inp y_encQ y_encP y_decQ y_decP (upd de (8 * b + j) z) y_pkt y_vec y_work y_vt := by
      intro z hz
      refine ih (j + 1) _ (by omega) ?_ ?_
      · intro t ht
        by_cases e : t = j
        · subst e; rw [pk_us, hz]
        · rw [pk_un (by omega)]; exact h1 t (by omega)
      · intro i hi
        rw [pk_un (by omega)]
        exact h2 i hi
    have i1 : vp_in (8 * nI b + nI j) 32 := pk_in (8 * b + j) 32 (by omega) (pq_8i _ _)
    have i2 : (8 * nI b + nI j).toNatClampNeg = 8 * b + j := by rw [pq_8i, nI_clamp (by omega)]
    refine br_f (nI_ge (b := 8) (by omega) (by decide)) ⟨vp_in_nI (by omega) (by decide), nm_r (e' := Y j) (by rw [nI_clamp (by omega), hY j (by omega)]) ?_⟩
    by_cases z : q = 0
    · exact br_t (by rw [z]; rfl) ⟨i1, nm_r (e' := upd de (8 * b + j) 0) (by rw [i2]) (nm_r (nI_1 j) (IH 0 (pq_sc_0 (Or.inl z)).symm))⟩
    · refine br_f (nI_ne0 (by omega) (by omega)) ?_
      by_cases w : Y j = 0
      · exact br_t w ⟨i1, nm_r (e' := upd de (8 * b + j) 0) (by rw [i2]) (nm_r (nI_1 j) (IH 0 (pq_sc_0 (Or.inr w)).symm))⟩
      · have ⟨M1, M2⟩ := pq_M32 (q := q) (by omega) hq (hs j (by omega))
        refine br_f w ⟨pq_ln0 hs1 (by omega), nm_r (e' := lN (2 ^ (q - 1) * (pq_mg (Y j) * pq_mg (Y j)) / sq)) ?_ (py_sq rfl M1 ?_)⟩
        · rw [pq_pw (by omega) hq, pk_lDiv (pq_pwb (by omega) hq (hm j (by omega))) hs1 (by omega)]
        · by_cases c : Y j < 0
          · refine br_f (pq_nle0 c) ⟨i1, nm_e (nm_r (nI_1 j) ?_)⟩
            rw [i2]
            refine IH _ ?_
            rw [pq_sc_n (by omega) w c, lN_i]
          · refine br_t (pq_nlt0 c) ⟨i1, nm_e (nm_r (nI_1 j) ?_)⟩
            rw [i2]
            refine IH _ ?_
            rw [pq_sc_p (by omega) w c, lN_i]
theorem py_356 {post : SY → Prop} {Y : Nat → Int32} {q : Nat} (hb : b < 4) (hq : q ≤ 33) (hY : ∀ t, t < 8 → y_work t = Y t) (hm : ∀ t, t < 8 → pq_mg (Y t) ≤ 16)
    (K : ∀ pu de : Nat → Int32, (∀ j, j < 8 → pu (8 * b + j) = Y j) → (∀ i, (i < 8 * b ∨ 8 * b + 8 ≤ i) → pu i = y_decP i) → (∀ j, j < 8 → de (8 * b + j) = pq_sc (Y j) q (pq_S (fun j => pq_mg (Y j) * pq_mg (Y j)) 8)) → (∀ i, (i < 8 * b ∨ 8 * b + 8 ≤ i) → de i = y_decC i) → J (nI (b + 1)) y_pktLen y_low y_rng y_cache y_pending y_rpos y_drng y_dcode y_dr y_kb y_inp y_encQ y_encP y_decQ pu de y_pkt y_vec y_work y_vt) : ∀ d j (pu : Nat → Int32), j + d = 8 → (∀ t, t < j → pu (8 * b + t) = Y t) → (∀ i, (i < 8 * b ∨ 8 * b + 8 ≤ i) → pu i = y_decP i) →
    wY_decodeFrame_356 post J (nI b) (nI q) y_pktLen y_low y_rng y_cache y_pending y_rpos y_drng y_dcode y_dr (d + 1) (lN (pq_S (fun j => pq_mg (Y j) * pq_mg (Y j)) j)) (nI j) y_kb y_inp y_encQ y_encP y_decQ pu y_decC y_pkt y_vec y_work y_vt := by
  have hS : pq_S (fun j => pq_mg (Y j) * pq_mg (Y j)) 8 ≤ 8 * (16 * 16) := pq_S_le _ _ 8 (fun j hj => Nat.mul_le_mul (hm j hj) (hm j hj))
  have hG : ∀ t, t < 8 → pq_mg (Y t) * pq_mg (Y t) ≤ pq_S (fun j => pq_mg (Y j) * pq_mg (Y j)) 8 := fun t ht => pq_S_ge (fun j => pq_mg (Y j) * pq_mg (Y j)) ht
  intro d
  induction d with
  | zero =>
    intro j pu hj h1 h2
    have e : j = 8 := by omega
    subst e
    refine br_t (nI_le (a := 8) (Nat.le_refl _) (by decide)) ?_
    by_cases z : 1 ≤ pq_S (fun j => pq_mg (Y j) * pq_mg (Y j)) 8
    · exact br_t (pq_l1 z (by omega)) ⟨9, py_423 hb hq hY hm hG z (by omega) (fun de g1 g2 => K pu de h1 h2 g1 g2) 8 0 y_decC (by omega) (fun t h => absurd h (Nat.not_lt_zero t)) (fun _ _ => rfl)⟩
    · have z0 : pq_S (fun j => pq_mg (Y j) * pq_mg (Y j)) 8 = 0 := by omega
      have hY0 : ∀ t, t < 8 → Y t = 0 := by
        intro t ht
        apply pq_mg0
        have := hG t ht
        by_cases w : pq_mg (Y t) = 0
        · exact w
        · have m : 1 ≤ pq_mg (Y t) * pq_mg (Y t) := Nat.mul_pos (by omega) (by omega)
          omega
      refine br_f ?_ ⟨9, py_423 (sq := 1) hb hq hY hm (fun t ht => by have := hG t ht; omega) (Nat.le_refl _) (by decide) (fun de g1 g2 => K pu de h1 h2 (fun j hj => ?_) g2) 8 0 y_decC (by omega) (fun t h => absurd h (Nat.not_lt_zero t)) (fun _ _ => rfl)⟩
      · rw [z0]; decide
      · rw [g1 j hj, pq_sc_0 (Or.inr (hY0 j hj)), pq_sc_0 (Or.inr (hY0 j hj))]
  | succ d ih =>
    intro j pu hj h1 h2
    have i1 : vp_in (8 * nI b + nI j) 32 := pk_in (8 * b + j) 32 (by omega) (pq_8i _ _)
    have i2 : (8 * nI b + nI j).toNatClampNeg = 8 * b + j := by rw [pq_8i, nI_clamp (by omega)]
    have i3 : vp_in (nI j) 8 := vp_in_nI (by omega) (by decide)
    refine br_f (nI_ge (b := 8) (by omega) (by decide)) ⟨i3, i1, nm_r (e' := upd pu (8 * b + j) (Y j)) (by rw [i2, nI_clamp (by omega), hY j (by omega)]) ⟨i3, i3, nm_r (e' := lN (pq_S (fun j => pq_mg (Y j) * pq_mg (Y j)) (j + 1))) ?_ (nm_r (nI_1 j) (ih (j + 1) _ (by omega) ?_ ?_))⟩⟩
    · rw [nI_clamp (by omega), hY j (by omega), pq_mgL, lN_add]
      rfl
    · intro t ht
      by_cases z : t = j
      · subst z; exact pk_us
      · rw [pk_un (by omega)]; exact h1 t (by omega)
    · intro i hi
      rw [pk_un (by omega)]
      exact h2 i hi
theorem py_328 {post : SY → Prop} {q r : Nat} (hb : b < 4) (ht : pq_tb y_vt) (hk : pq_HK y_kb) (hq : q ≤ 33) (hr : r < pq_V 8 (pq_k y_kb b))
    (K : ∀ pu de wk : Nat → Int32, (∀ j, j < 8 → pu (8 * b + j) = pq_y 8 (pq_k y_kb b) r j) → (∀ i, (i < 8 * b ∨ 8 * b + 8 ≤ i) → pu i = y_decP i) → (∀ j, j < 8 → de (8 * b + j) = pq_sc (pq_y 8 (pq_k y_kb b) r j) q (pq_z 8 (pq_k y_kb b) r)) → (∀ i, (i < 8 * b ∨ 8 * b + 8 ≤ i) → de i = y_decC i) → J (nI (b + 1)) y_pktLen y_low y_rng y_cache y_pending y_rpos y_drng y_dcode y_dr y_kb y_inp y_encQ y_encP (upd y_decQ b (nI q)) pu de y_pkt y_vec wk y_vt) :
    wY_decodeFrame_328 post J (nI b) (nI q) (nI r) y_pktLen y_low y_rng y_cache y_pending y_rpos y_drng y_dcode y_dr y_kb y_inp y_encQ y_encP y_decQ y_decP y_decC y_pkt y_vec y_work y_vt := by
  have ⟨k1, k2, k3⟩ := pq_k_s hk hb
  refine ⟨vp_in_nI hb (by decide), ?_⟩
  rw [nI_clamp (by omega), k3]
  refine py_un (n := 8) (k := pq_k y_kb b) (r := r) ht (by omega) k2 hr rfl rfl rfl ?_
  intro wk g1 g2
  refine ⟨vp_in_nI hb (by decide), nm_r (e' := upd y_decQ b (nI q)) rfl ⟨9, ?_⟩⟩
  exact py_356 (Y := pq_y 8 (pq_k y_kb b) r) hb hq g1 (fun t ht => pq_y_mg (by omega) k2 hr ht) (fun pu de a1 a2 a3 a4 => K pu de wk a1 a2 a3 a4) 8 0 y_decP (by omega) (fun t h => absurd h (Nat.not_lt_zero t)) (fun _ _ => rfl)
theorem py_186 {post : SY → Prop} {B q : Nat} {d : pq_D} {x2 z0 : Int32} (hb : b < 4) (hB : pq_B pk) (hl : le ≤ 64) (ht : pq_tb y_vt) (hk : pq_HK y_kb) (hD : pq_DI B d) (hBB : B + 4 < 2 ^ 20) (hq : pq_cl (x2 + z0) 0 33 = nI q) (hq2 : q ≤ 33)
    (K : ∀ (dr : Int64) (pu de wk : Nat → Int32), (∀ j, j < 8 → pu (8 * b + j) = pq_y 8 (pq_k y_kb b) (pq_dp pk le d (pq_k y_kb b)).1 j) → (∀ i, (i < 8 * b ∨ 8 * b + 8 ≤ i) → pu i = y_decP i) → (∀ j, j < 8 → de (8 * b + j) = pq_sc (pq_y 8 (pq_k y_kb b) (pq_dp pk le d (pq_k y_kb b)).1 j) q (pq_z 8 (pq_k y_kb b) (pq_dp pk le d (pq_k y_kb b)).1)) → (∀ i, (i < 8 * b ∨ 8 * b + 8 ≤ i) → de i = y_decC i) →
      J (nI (b + 1)) (nI le) y_low y_rng y_cache y_pending (nI (((pq_dp pk le d (pq_k y_kb b)).2)).1) (lN (((pq_dp pk le d (pq_k y_kb b)).2)).2.1) (lN (((pq_dp pk le d (pq_k y_kb b)).2)).2.2) dr y_kb y_inp y_encQ y_encP (upd y_decQ b (nI q)) pu de pk y_vec wk y_vt) :
    wY_decodeFrame_186 post J (nI b) x2 z0 (nI le) y_low y_rng y_cache y_pending (nI d.1) (lN d.2.1) (lN d.2.2) y_dr y_kb y_inp y_encQ y_encP y_decQ y_decP y_decC pk y_vec y_work y_vt := by
  have ⟨k1, k2, k3⟩ := pq_k_s hk hb
  have hV := pq_Vle (n := 8) (k := pq_k y_kb b) (by omega) k2
  have hp := pq_Vpos (pq_k y_kb b) (by omega)
  have ⟨hx, _⟩ := pq_dp_s pk le hD k2
  unfold wY_decodeFrame_186
  refine py_clamp ⟨vp_in_nI hb (by decide), ?_⟩
  rw [hq, nI_clamp (by omega), k3]
  refine py_vv (n := 8) (k := pq_k y_kb b) ht (by omega) k2 rfl rfl ?_
  unfold pq_dp at K hx
  by_cases c : pq_V 8 (pq_k y_kb b) ≤ 65536
  · rw [if_pos c] at K hx
    refine br_f (nI_nlt (a := 65536) c (by decide)) (py_dv hD hp c (nI_l (by omega)) (py_dc hB hl hD (by omega) hp c (Nat.le_refl 1) hp (Nat.le_refl _) (nI_l ?_) rfl (py_328 hb ht hk hq2 hx ?_)))
    · have := pq_dv_lt (d := d) hp; omega
    · intro pu de wk a1 a2 a3 a4
      exact K _ pu de wk a1 a2 a3 a4
  · rw [if_neg c] at K hx
    have ⟨a1, a2, a3, a4⟩ := pq_ap_s (pq_k y_kb b) (by omega) (by omega)
    have ⟨p1, p2⟩ := pq_ap_p _ a2
    have hv := pq_dv_lt (d := d) (total := (pq_V 8 (pq_k y_kb b) - 1) / 2 ^ pq_ap (pq_k y_kb b) + 1) (Nat.succ_pos _)
    have D1 := pq_dc_s pk le (total := (pq_V 8 (pq_k y_kb b) - 1) / 2 ^ pq_ap (pq_k y_kb b) + 1) (start := pq_dv d ((pq_V 8 (pq_k y_kb b) - 1) / 2 ^ pq_ap (pq_k y_kb b) + 1)) hD (Nat.succ_pos _) a3 (Nat.le_refl 1) (Nat.succ_pos _)
    have hv2 := pq_dv_lt (d := pq_dc pk le d ((pq_V 8 (pq_k y_kb b) - 1) / 2 ^ pq_ap (pq_k y_kb b) + 1) (pq_dv d ((pq_V 8 (pq_k y_kb b) - 1) / 2 ^ pq_ap (pq_k y_kb b) + 1)) 1) (total := 2 ^ pq_ap (pq_k y_kb b)) p1
    have ⟨l1, l2⟩ := pq_hlo (V := 0) (Nat.le_of_lt_succ (Nat.lt_of_lt_of_le hv a3)) a2 hv2
    have hvs : pq_dv d ((pq_V 8 (pq_k y_kb b) - 1) / 2 ^ pq_ap (pq_k y_kb b) + 1) < 2 ^ 31 := Nat.lt_of_lt_of_le hv (Nat.le_trans a3 (by decide))
    have hvs2 : pq_dv (pq_dc pk le d ((pq_V 8 (pq_k y_kb b) - 1) / 2 ^ pq_ap (pq_k y_kb b) + 1) (pq_dv d ((pq_V 8 (pq_k y_kb b) - 1) / 2 ^ pq_ap (pq_k y_kb b) + 1)) 1) (2 ^ pq_ap (pq_k y_kb b)) < 2 ^ 31 := Nat.lt_of_lt_of_le hv2 (Nat.le_trans p2 (by decide))
    have e1 : (nI (pq_V 8 (pq_k y_kb b) - 1) >>> (nI (pq_ap (pq_k y_kb b)) &&& 31) + 1).toInt64 = lN ((pq_V 8 (pq_k y_kb b) - 1) / 2 ^ pq_ap (pq_k y_kb b) + 1) := by
      rw [pq_shV (by omega) a2, nI_1, nI_l (Nat.lt_of_le_of_lt a3 (by decide))]
    have e2 : ((1 : Int32) <<< (nI (pq_ap (pq_k y_kb b)) &&& 31)).toInt64 = lN (2 ^ pq_ap (pq_k y_kb b)) := by
      rw [pq_p2 _ a2, nI_l (Nat.lt_of_le_of_lt p2 (by decide))]
    refine br_t (nI_lt (a := 65536) (by omega) (by omega)) (nm_r (pq_i1 hp) (py_bl (nI_l (by omega)) (by omega) (nm_r (e' := nI (pq_ap (pq_k y_kb b))) ?_ ?_)))
    · rw [a4, show (16 : Int32) = nI 16 from rfl, pk_sub (by omega), Nat.add_sub_cancel]
    · refine py_dv (total := (pq_V 8 (pq_k y_kb b) - 1) / 2 ^ pq_ap (pq_k y_kb b) + 1) hD (Nat.succ_pos _) a3 e1 (py_dc hB hl hD (by omega) (Nat.succ_pos _) a3 (Nat.le_refl 1) (Nat.succ_pos _) (Nat.le_refl _) (nI_l hvs) rfl ?_)
      refine py_dv (total := 2 ^ pq_ap (pq_k y_kb b)) D1 p1 (Nat.le_trans p2 (by decide)) e2 (py_dc hB hl D1 (by omega) p1 (Nat.le_trans p2 (by decide)) (Nat.le_refl 1) p1 (Nat.le_refl _) (nI_l hvs2) rfl ?_)
      refine nm_r (e' := nI (pq_dv d ((pq_V 8 (pq_k y_kb b) - 1) / 2 ^ pq_ap (pq_k y_kb b) + 1) * 2 ^ pq_ap (pq_k y_kb b) + pq_dv (pq_dc pk le d ((pq_V 8 (pq_k y_kb b) - 1) / 2 ^ pq_ap (pq_k y_kb b) + 1) (pq_dv d ((pq_V 8 (pq_k y_kb b) - 1) / 2 ^ pq_ap (pq_k y_kb b) + 1)) 1) (2 ^ pq_ap (pq_k y_kb b)))) (by rw [pq_p2 _ a2, pk_mul, nI_add]) ?_
      rw [pq_i1 hp]
      generalize pq_dv d ((pq_V 8 (pq_k y_kb b) - 1) / 2 ^ pq_ap (pq_k y_kb b) + 1) * 2 ^ pq_ap (pq_k y_kb b) + pq_dv (pq_dc pk le d ((pq_V 8 (pq_k y_kb b) - 1) / 2 ^ pq_ap (pq_k y_kb b) + 1) (pq_dv d ((pq_V 8 (pq_k y_kb b) - 1) / 2 ^ pq_ap (pq_k y_kb b) + 1)) 1) (2 ^ pq_ap (pq_k y_kb b)) = X at *
      by_cases cX : pq_V 8 (pq_k y_kb b) - 1 < X
      · rw [if_pos cX] at K hx
        refine br_f (nI_ge cX (by omega)) (nm_e (py_328 hb ht hk hq2 hx ?_))
        intro pu de wk a1 a2 a3 a4
        exact K _ pu de wk a1 a2 a3 a4
      · rw [if_neg cX] at K hx
        refine br_t (nI_le (by omega) (by omega)) (py_328 hb ht hk hq2 hx ?_)
        intro pu de wk a1 a2 a3 a4
        exact K _ pu de wk a1 a2 a3 a4
theorem py_139 {post : SY → Prop} {B q : Nat} {d : pq_D} {x2 : Int32} (hb : b < 4) (hB : pq_B pk) (hl : le ≤ 64) (ht : pq_tb y_vt) (hk : pq_HK y_kb) (hD : pq_DI B d) (hBB : B + 6 < 2 ^ 20) (hq : pq_cl (x2 + pq_rs (pq_ds d)) 0 33 = nI q) (hq2 : q ≤ 33)
    (K : ∀ (dr : Int64) (pu de wk : Nat → Int32), (∀ j, j < 8 → pu (8 * b + j) = pq_y 8 (pq_k y_kb b) (pq_dp pk le (pq_de pk le d) (pq_k y_kb b)).1 j) → (∀ i, (i < 8 * b ∨ 8 * b + 8 ≤ i) → pu i = y_decP i) → (∀ j, j < 8 → de (8 * b + j) = pq_sc (pq_y 8 (pq_k y_kb b) (pq_dp pk le (pq_de pk le d) (pq_k y_kb b)).1 j) q (pq_z 8 (pq_k y_kb b) (pq_dp pk le (pq_de pk le d) (pq_k y_kb b)).1)) → (∀ i, (i < 8 * b ∨ 8 * b + 8 ≤ i) → de i = y_decC i) →
      J (nI (b + 1)) (nI le) y_low y_rng y_cache y_pending (nI (((pq_dp pk le (pq_de pk le d) (pq_k y_kb b)).2)).1) (lN (((pq_dp pk le (pq_de pk le d) (pq_k y_kb b)).2)).2.1) (lN (((pq_dp pk le (pq_de pk le d) (pq_k y_kb b)).2)).2.2) dr y_kb y_inp y_encQ y_encP (upd y_decQ b (nI q)) pu de pk y_vec wk y_vt) :
    wY_decodeFrame_139 post J (nI b) x2 (nI (pq_ds d)) (nI le) y_low y_rng y_cache y_pending (nI d.1) (lN d.2.1) (lN d.2.2) (lN (d.2.1 / 150)) y_kb y_inp y_encQ y_encP y_decQ y_decP y_decC pk y_vec y_work y_vt := by
  have ⟨s1, s2, s3⟩ := pq_ds_s d
  have ⟨f1, f2, f3⟩ := pq_f_s (pq_ds d) (by omega)
  have hD2 := pq_de_s pk le hD
  unfold wY_decodeFrame_139
  refine py_st rfl (by omega) (py_freq rfl (by omega) (py_dc (total := 150) hB hl hD (by omega) (by decide) (by decide) f2 (by omega) s1 (nI_l (by omega)) (nI_l (by omega)) ⟨by decide, ?_⟩))
  unfold pq_rs at hq
  by_cases c : nI (pq_ds d) - nI (pq_ds d) / 2 * 2 = 0
  · rw [if_pos c] at hq
    exact br_t c ⟨by decide, py_186 hb hB hl ht hk hD2 (by omega) hq hq2 K⟩
  · rw [if_neg c] at hq
    exact br_f c ⟨by decide, py_186 hb hB hl ht hk hD2 (by omega) hq hq2 K⟩
theorem py_88 {post : SY → Prop} {B q : Nat} {d : pq_D} {x2 : Int32} (hb : b < 4) (hB : pq_B pk) (hl : le ≤ 64) (ht : pq_tb y_vt) (hk : pq_HK y_kb) (hD : pq_DI B d) (hBB : B + 6 < 2 ^ 20) (hq : pq_cl (x2 + pq_rs (pq_ds d)) 0 33 = nI q) (hq2 : q ≤ 33)
    (K : ∀ (dr : Int64) (pu de wk : Nat → Int32), (∀ j, j < 8 → pu (8 * b + j) = pq_y 8 (pq_k y_kb b) (pq_dp pk le (pq_de pk le d) (pq_k y_kb b)).1 j) → (∀ i, (i < 8 * b ∨ 8 * b + 8 ≤ i) → pu i = y_decP i) → (∀ j, j < 8 → de (8 * b + j) = pq_sc (pq_y 8 (pq_k y_kb b) (pq_dp pk le (pq_de pk le d) (pq_k y_kb b)).1 j) q (pq_z 8 (pq_k y_kb b) (pq_dp pk le (pq_de pk le d) (pq_k y_kb b)).1)) → (∀ i, (i < 8 * b ∨ 8 * b + 8 ≤ i) → de i = y_decC i) →
      J (nI (b + 1)) (nI le) y_low y_rng y_cache y_pending (nI (((pq_dp pk le (pq_de pk le d) (pq_k y_kb b)).2)).1) (lN (((pq_dp pk le (pq_de pk le d) (pq_k y_kb b)).2)).2.1) (lN (((pq_dp pk le (pq_de pk le d) (pq_k y_kb b)).2)).2.2) dr y_kb y_inp y_encQ y_encP (upd y_decQ b (nI q)) pu de pk y_vec wk y_vt) : ∀ t c, c + t = pq_ds d →
    wY_decodeFrame_88 post J (nI b) x2 (nI (pq_dv d 150)) 0 (nI le) y_low y_rng y_cache y_pending (nI d.1) (lN d.2.1) (lN d.2.2) (lN (d.2.1 / 150)) y_kb y_inp y_encQ y_encP y_decQ y_decP y_decC pk y_vec y_work y_vt (t + 1) (nI c) := by
  have ⟨s1, s2, s3⟩ := pq_ds_s d
  have v := pq_dv_lt (d := d) (total := 150) (by decide)
  intro t
  induction t with
  | zero =>
    intro c hc
    have e : c = pq_ds d := by omega
    subst e
    have m : pq_st (pq_ds d + 1) = pq_st (pq_ds d) + pq_f (pq_ds d) := rfl
    have f1 := (pq_f_s (pq_ds d) (by omega)).1
    refine br_f (nI_nlt (a := 66) s3 (by decide)) (py_st rfl (by omega) (py_freq rfl (by omega) (br_f (nI_nlt s1 (by omega)) (br_f ?_ (py_139 hb hB hl ht hk hD hBB hq hq2 K)))))
    rw [nI_add]
    exact nI_ge (by omega) (by omega)
  | succ t ih =>
    intro c hc
    have m : pq_st (c + 1) = pq_st c + pq_f c := rfl
    have m2 : pq_st (c + 1) ≤ pq_st (pq_ds d) := pq_S_mono pq_f (by omega)
    refine br_f (nI_nlt (a := 66) (by omega) (by decide)) (py_st rfl (by omega) (py_freq rfl (by omega) (br_f (nI_nlt (by omega) (by omega)) (br_t ?_ (nm_r (nI_1 c) (ih (c + 1) (by omega)))))))
    rw [nI_add]
    exact nI_le (by omega) (by omega)
theorem py_56 {post : SY → Prop} (hB : pq_B pk) (hl : le ≤ 64) (ht : pq_tb y_vt) (hk : pq_HK y_kb)
    (K : ∀ (dr : Int64) (en pu de wk : Nat → Int32), pq_fin y_decQ pk le y_kb 4 en pu de →
      post (nI le, y_low, y_rng, y_cache, y_pending, nI ((pq_db pk le y_kb 4)).1, lN ((pq_db pk le y_kb 4)).2.1, lN ((pq_db pk le y_kb 4)).2.2, dr, y_kb, y_inp, y_encQ, y_encP, en, pu, de, pk, y_vec, wk, y_vt)) :
    ∀ d b (dr : Int64) (en pu de wk : Nat → Int32), b + d = 4 → pq_fin y_decQ pk le y_kb b en pu de → (∀ j, b ≤ j → en j = y_decQ j) →
    wY_decodeFrame_56 post (d + 1) (nI b) (nI le) y_low y_rng y_cache y_pending (nI ((pq_db pk le y_kb b)).1) (lN ((pq_db pk le y_kb b)).2.1) (lN ((pq_db pk le y_kb b)).2.2) dr y_kb y_inp y_encQ y_encP en pu de pk y_vec wk y_vt := by
  intro d
  induction d with
  | zero =>
    intro b dr en pu de wk hb h1 h2
    have e : b = 4 := by omega
    subst e
    exact br_t (nI_le (a := 4) (Nat.le_refl _) (by decide)) (K dr en pu de wk h1)
  | succ d ih =>
    intro b dr en pu de wk hb h1 h2
    have hb4 : b < 4 := by omega
    have hD := pq_db_s pk le hk b (by omega)
    have ⟨q1, q2⟩ := pq_qf_s y_decQ pk le y_kb b
    refine br_f (nI_ge (b := 4) (by omega) (by decide)) ⟨vp_in_nI hb4 (by decide), by decide, nm_r (e' := (3 * y_decQ b + 2) / 4) (by rw [nI_clamp (by omega), h2 b (Nat.le_refl _)]) ?_⟩
    refine py_dv (total := 150) hD (by decide) (by decide) rfl ⟨pq_ds (pq_db pk le y_kb b) + 1, ?_⟩
    refine py_88 hb4 hB hl ht hk hD (by omega) q1 q2 ?_ (pq_ds (pq_db pk le y_kb b)) 0 (by omega)
    intro dr' pu' de' wk' g1 g2 g3 g4
    refine ih (b + 1) dr' _ pu' de' wk' (by omega) ⟨?_, ?_, ?_⟩ ?_
    · intro c hc
      by_cases z : c = b
      · subst z; rw [pk_us, q1]
      · rw [pk_un z]; exact h1.1 c (by omega)
    · intro c j hc hj
      by_cases z : c = b
      · subst z; exact g1 j hj
      · rw [g2 _ (by omega)]; exact h1.2.1 c j (by omega) hj
    · intro c j hc hj
      by_cases z : c = b
      · subst z; exact g3 j hj
      · rw [g4 _ (by omega)]; exact h1.2.2 c j (by omega) hj
    · intro j hj
      rw [pk_un (by omega)]
      exact h2 j (by omega)
theorem py_19 {post : SY → Prop} (hB : pq_B pk) (hl : le ≤ 64) (ht : pq_tb y_vt) (hk : pq_HK y_kb)
    (K : ∀ (dr : Int64) (en pu de wk : Nat → Int32), pq_fin y_decQ pk le y_kb 4 en pu de →
      post (nI le, y_low, y_rng, y_cache, y_pending, nI ((pq_db pk le y_kb 4)).1, lN ((pq_db pk le y_kb 4)).2.1, lN ((pq_db pk le y_kb 4)).2.2, dr, y_kb, y_inp, y_encQ, y_encP, en, pu, de, pk, y_vec, wk, y_vt)) : ∀ d i, i + d = 5 →
    wY_decodeFrame_19 post (d + 1) (nI i) (nI le) y_low y_rng y_cache y_pending (nI ((pq_d5 pk le i)).1) (lN ((pq_d5 pk le i)).2.1) (lN ((pq_d5 pk le i)).2.2) y_dr y_kb y_inp y_encQ y_encP y_decQ y_decP y_decC pk y_vec y_work y_vt := by
  intro d
  induction d with
  | zero =>
    intro i hi
    have e : i = 5 := by omega
    subst e
    exact br_t (nI_le (a := 5) (Nat.le_refl _) (by decide)) ⟨5, py_56 hB hl ht hk K 4 0 y_dr y_decQ y_decP y_decC y_work (by omega) ⟨fun c h => absurd h (Nat.not_lt_zero c), fun c _ h => absurd h (Nat.not_lt_zero c), fun c _ h => absurd h (Nat.not_lt_zero c)⟩ (fun _ _ => rfl)⟩
  | succ d ih =>
    intro i hi
    have ⟨a1, _, a3⟩ := pq_d5_s pk le i
    exact br_f (nI_ge (b := 5) (by omega) (by decide)) (py_nb hB hl (by omega) (nm_r (pq_tkY hB hl a3) (nm_r (nI_1 i) (ih (i + 1) (by omega)))))
theorem py_decode {post : SY → Prop} (hB : pq_B pk) (hl : le ≤ 64) (ht : pq_tb y_vt) (hk : pq_HK y_kb)
    (K : ∀ (dr : Int64) (en pu de wk : Nat → Int32), pq_fin y_decQ pk le y_kb 4 en pu de →
      post (nI le, y_low, y_rng, y_cache, y_pending, nI ((pq_db pk le y_kb 4)).1, lN ((pq_db pk le y_kb 4)).2.1, lN ((pq_db pk le y_kb 4)).2.2, dr, y_kb, y_inp, y_encQ, y_encP, en, pu, de, pk, y_vec, wk, y_vt)) : wpY_decodeFrame post (nI le, y_low, y_rng, y_cache, y_pending, y_rpos, y_drng, y_dcode, y_dr, y_kb, y_inp, y_encQ, y_encP, y_decQ, y_decP, y_decC, pk, y_vec, y_work, y_vt) :=
  ⟨6, py_19 hB hl ht hk K 5 0 (by omega)⟩
end PQY
