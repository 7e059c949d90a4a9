/-! the law's pieces -/
theorem pl_cell {post : Int32 → Prop} {L : Nat} {xs : Nat → Int32} {j : Nat} {p : Int32} (hL : L ≤ 260) (e : p = nI j) (hj : j < 2 ^ 20) (h : ∀ r, post r) : wpL_cell post L xs () p := by
  subst e
  by_cases c : L ≤ j
  · exact br_t (nI_le c (by omega)) (h 0)
  · exact br_f (nI_ge (by omega) (by omega)) ⟨vp_in_nI (by omega) (by omega), h _⟩
theorem pl_rs : ∀ q, q < 34 → ∀ p, p < 26 → nI p + pq_rs (pq_sm q p) = nI q := by decide +kernel
theorem pl_cl {q : Nat} (h : q ≤ 33) : pq_cl (nI q) 0 33 = nI q := by
  unfold pq_cl
  rw [if_neg (nI_pos (by omega))]
  exact if_neg (nI_nlt (a := 33) h (by decide))
/-- a frame comes back -/
theorem pl_back {co pc eq dq pk : Nat → Int32} (hp : pq_B pk) (hc : pq_HC co) (hk : pq_HK pc) (hq : pq_HQ eq) (hd : ∀ j, j < 4 → dq j = eq j) : ∀ b, b < 4 →
    pq_qf dq (pq_fl 5 (pq_eb pk co pc eq 4)).2.2.2.2.2 (pq_fl 5 (pq_eb pk co pc eq 4)).2.2.2.2.1 pc b = nI (pq_q co b) ∧
    ∀ j, j < 8 → pq_y 8 (pq_k pc b) (pq_xi (pq_fl 5 (pq_eb pk co pc eq 4)).2.2.2.2.2 (pq_fl 5 (pq_eb pk co pc eq 4)).2.2.2.2.1 pc b) j = pq_yv co b (pq_k pc b) j := by
  intro b hb
  have ⟨t1, t2⟩ := pr_trip hp hc hk hq b hb
  have hq1 := pq_q_le hc hb
  have ⟨hq2, hq3⟩ := pq_q_s hq hb
  have ⟨k1, k2, k3⟩ := pq_k_s hk hb
  refine ⟨?_, ?_⟩
  · unfold pq_qf
    rw [t1, hd b hb, hq3, pq_pred hq2]
    unfold pq_sb
    rw [pl_rs (pq_q co b) (by omega) ((3 * pq_k eq b + 2) / 4) (by omega), pl_cl hq1]
  · intro j hj
    rw [t2]
    exact pr_y (by omega) k2 (pq_yv_M co b k2) hj
def pl_I (le : Nat) (pc co en vec sizes pk : Nat → Int32) : Prop := le ≤ 64 ∧ pq_HK pc ∧ pq_HC co ∧ pq_B pk ∧ pq_tb sizes ∧ pq_HQ en ∧ (∀ j, j < 4 → en (4 + j) = en j) ∧ (∀ i, i < 8 → pq_mg (vec i) ≤ 16)
section PLA
variable {x_length x_cache x_pending x_readPosition : Int32} {x_low x_encoderRange x_decoderRange x_code x_decoderStep : Int64} {x_pulseCounts x_coefs x_energies x_pulses x_decoded x_vec x_sizes x_packet : Nat → Int32}
variable {le : Nat}
theorem px_init {post : St2 → Prop} {k0 k1 k2 k3 : Int32} (K : ∀ t : Nat → Int32, pq_tb t → post (0, 0, 4294967295, 0, 1, 0, 4294967295, 0, 0, upd (upd (upd (upd (fun _ => 0) 0 (pq_cl k0 1 16)) 1 (pq_cl k1 1 16)) 2 (pq_cl k2 1 16)) 3 (pq_cl k3 1 16), (fun _ => 0), (fun _ => 0), (fun _ => 0), (fun _ => 0), (fun _ => 0), t, (fun _ => 0))) : wpX_init post 8 365 (0, 0, 0, 0, 0, 0, 0, 0, 0) k0 k1 k2 k3 :=
  ⟨by decide, by decide, by decide, by decide, by decide, by decide, by decide, by decide, by decide, by decide, by decide, by decide, by decide, by decide, by decide, by decide, px_clamp (nm_e (px_clamp (nm_e (px_clamp (nm_e (px_clamp (nm_e (px_fill K))))))))⟩
theorem px_pul0 {post : Int32 → Prop} {j : Nat} (hj : j < 32) (h : post (x_pulses j)) : wpX_pulse post (x_length, x_low, x_encoderRange, x_cache, x_pending, x_readPosition, x_decoderRange, x_code, x_decoderStep, x_pulseCounts, x_coefs, x_energies, x_pulses, x_decoded, x_vec, x_sizes, x_packet) 0 (nI j) := by
  have ei : (0 : Int32) * 32 + nI j = nI j := by rw [show (0 : Int32) * 32 = 0 by decide, pq_0i]
  refine br_t rfl (br_f (nI_pos (by omega)) (br_t (nI_lt (b := 32) hj (by decide)) ⟨pk_in j 64 (by omega) ei, ?_⟩))
  rw [ei, nI_clamp (by omega)]
  exact h
theorem px_pul1 {post : Int32 → Prop} {j : Nat} (hj : j < 32) (h : post (x_pulses (32 + j))) : wpX_pulse post (x_length, x_low, x_encoderRange, x_cache, x_pending, x_readPosition, x_decoderRange, x_code, x_decoderStep, x_pulseCounts, x_coefs, x_energies, x_pulses, x_decoded, x_vec, x_sizes, x_packet) 1 (nI j) := by
  have ei : (1 : Int32) * 32 + nI j = nI (32 + j) := by rw [show (1 : Int32) * 32 = nI 32 by decide, nI_add]
  refine br_f (by decide) (br_t rfl (br_f (nI_pos (by omega)) (br_t (nI_lt (b := 32) hj (by decide)) ⟨pk_in (32 + j) 64 (by omega) ei, ?_⟩)))
  rw [ei, nI_clamp (by omega)]
  exact h
theorem px_enq0 {post : Int32 → Prop} {j : Nat} (hj : j < 4) (h : post (x_energies j)) : wpX_energyQ post (x_length, x_low, x_encoderRange, x_cache, x_pending, x_readPosition, x_decoderRange, x_code, x_decoderStep, x_pulseCounts, x_coefs, x_energies, x_pulses, x_decoded, x_vec, x_sizes, x_packet) 0 (nI j) := by
  have ei : (0 : Int32) * 4 + nI j = nI j := by rw [show (0 : Int32) * 4 = 0 by decide, pq_0i]
  refine br_t rfl (br_f (nI_pos (by omega)) (br_t (nI_lt (b := 4) hj (by decide)) ⟨pk_in j 8 (by omega) ei, ?_⟩))
  rw [ei, nI_clamp (by omega)]
  exact h
theorem px_enq1 {post : Int32 → Prop} {j : Nat} (hj : j < 4) (h : post (x_energies (4 + j))) : wpX_energyQ post (x_length, x_low, x_encoderRange, x_cache, x_pending, x_readPosition, x_decoderRange, x_code, x_decoderStep, x_pulseCounts, x_coefs, x_energies, x_pulses, x_decoded, x_vec, x_sizes, x_packet) 1 (nI j) := by
  have ei : (1 : Int32) * 4 + nI j = nI (4 + j) := by rw [show (1 : Int32) * 4 = nI 4 by decide, nI_add]
  refine br_f (by decide) (br_t rfl (br_f (nI_pos (by omega)) (br_t (nI_lt (b := 4) hj (by decide)) ⟨pk_in (4 + j) 8 (by omega) ei, ?_⟩)))
  rw [ei, nI_clamp (by omega)]
  exact h
theorem pl_41 {post : Int32 → St2 → Prop} (hl : le ≤ 64) (hp : ∀ i, i < 32 → x_pulses (32 + i) = x_pulses i) (h : post 1 (nI le, x_low, x_encoderRange, x_cache, x_pending, x_readPosition, x_decoderRange, x_code, x_decoderStep, x_pulseCounts, x_coefs, x_energies, x_pulses, x_decoded, x_vec, x_sizes, x_packet)) : ∀ d i, i + d = 32 → wL_frameMatches_41 post (nI le) x_low x_encoderRange x_cache x_pending x_readPosition x_decoderRange x_code x_decoderStep x_pulseCounts x_coefs x_energies x_pulses x_decoded x_vec x_sizes x_packet (d + 1) (nI i) := by
  intro d
  induction d with
  | zero =>
    intro i hi
    have e : i = 32 := by omega
    subst e
    exact br_t (nI_le (a := 32) (Nat.le_refl _) (by decide)) (br_f (nI_nlt (a := 64) hl (by decide)) h)
  | succ d ih =>
    intro i hi
    exact br_f (nI_ge (b := 32) (by omega) (by decide)) (px_pul1 (by omega) (px_pul0 (by omega) (br_t (hp i (by omega)) (nm_r (nI_1 i) (ih (i + 1) (by omega))))))
theorem pl_11 {post : Int32 → St2 → Prop} (hl : le ≤ 64) (hp : ∀ i, i < 32 → x_pulses (32 + i) = x_pulses i) (he : ∀ j, j < 4 → x_energies (4 + j) = x_energies j) (h : post 1 (nI le, x_low, x_encoderRange, x_cache, x_pending, x_readPosition, x_decoderRange, x_code, x_decoderStep, x_pulseCounts, x_coefs, x_energies, x_pulses, x_decoded, x_vec, x_sizes, x_packet)) : ∀ d i, i + d = 4 → wL_frameMatches_11 post (nI le) x_low x_encoderRange x_cache x_pending x_readPosition x_decoderRange x_code x_decoderStep x_pulseCounts x_coefs x_energies x_pulses x_decoded x_vec x_sizes x_packet (d + 1) (nI i) := by
  intro d
  induction d with
  | zero =>
    intro i hi
    have e : i = 4 := by omega
    subst e
    exact br_t (nI_le (a := 4) (Nat.le_refl _) (by decide)) ⟨33, pl_41 hl hp h 32 0 (by omega)⟩
  | succ d ih =>
    intro i hi
    exact br_f (nI_ge (b := 4) (by omega) (by decide)) (px_enq1 (by omega) (px_enq0 (by omega) (br_t (he i (by omega)) (nm_r (nI_1 i) (ih (i + 1) (by omega))))))
theorem pl_frame {post : Int32 → St2 → Prop} (I : pl_I le x_pulseCounts x_coefs x_energies x_vec x_sizes x_packet)
    (K : ∀ (le' : Nat) (lo rg : Int64) (ca pe rp : Int32) (dr cd ds : Int64) (en pu de pk : Nat → Int32), pl_I le' x_pulseCounts x_coefs en x_vec x_sizes pk → post 1 (nI le', lo, rg, ca, pe, rp, dr, cd, ds, x_pulseCounts, x_coefs, en, pu, de, x_vec, x_sizes, pk)) :
    wpL_frameMatches post (nI le, x_low, x_encoderRange, x_cache, x_pending, x_readPosition, x_decoderRange, x_code, x_decoderStep, x_pulseCounts, x_coefs, x_energies, x_pulses, x_decoded, x_vec, x_sizes, x_packet) := by
  obtain ⟨hl, hk, hc, hB, ht, hq, he, hv⟩ := I
  have W := pq_fl_w 5 _ _ (pq_eb_s (pq_clr_B hB 64) hc hk hq 4 (Nat.le_refl _)).1
  unfold wpL_frameMatches
  dsimp only
  refine px_encode hB ht hc hk hq ?_
  intro en pu a1 a2 a3 a4
  dsimp only
  refine px_decode (x_energies := en) (x_pulses := pu) W.2.2.2 W.2.2.1 ht hk ?_
  intro ds en2 pu2 de F b1 b2
  have back := pl_back (dq := fun j => en (4 + j)) (pq_clr_B hB 64) hc hk hq (by
    intro j hj
    show en (4 + j) = x_energies j
    rw [a2 (4 + j) (by omega), he j hj])
  have E1 : ∀ j, j < 4 → en2 (4 + j) = en2 j := by
    intro j hj
    have f1 : en2 (4 + j) = _ := F.1 j hj
    rw [f1, (back j hj).1, b1 j hj, a1 j hj]
  have P1 : ∀ i, i < 32 → pu2 (32 + i) = pu2 i := by
    refine pq_32 (f := fun i => pu2 (32 + i)) (g := pu2) ?_
    intro c j hc2 hj
    have f1 : pu2 (32 + (8 * c + j)) = _ := F.2.1 c j hc2 hj
    show pu2 (32 + (8 * c + j)) = pu2 (8 * c + j)
    rw [f1, (back c hc2).2 j hj, b2 (8 * c + j) (by omega), a3 c j hc2 hj]
  refine ⟨5, pl_11 W.2.2.1 P1 E1 (K _ _ _ _ _ _ _ _ _ _ _ _ _ ⟨W.2.2.1, hk, hc, W.2.2.2, ht, ?_, E1, hv⟩) 4 0 (by omega)⟩
  intro b hb
  exact ⟨pq_q x_coefs b, pq_q_le hc hb, by rw [b1 b hb, a1 b hb]⟩
theorem px_setCoef {post : Int32 → St2 → Prop} {j : Nat} {p v : Int32} (e : p = nI j) (hj : j < 32) (h : post 1 (x_length, x_low, x_encoderRange, x_cache, x_pending, x_readPosition, x_decoderRange, x_code, x_decoderStep, x_pulseCounts, (upd x_coefs j (pq_cl v (-32767) 32767)), x_energies, x_pulses, x_decoded, x_vec, x_sizes, x_packet)) : wpX_setCoef post (x_length, x_low, x_encoderRange, x_cache, x_pending, x_readPosition, x_decoderRange, x_code, x_decoderStep, x_pulseCounts, x_coefs, x_energies, x_pulses, x_decoded, x_vec, x_sizes, x_packet) p v := by
  subst e
  refine br_f (nI_pos (by omega)) (br_t (nI_lt (b := 32) hj (by decide)) (px_clamp ⟨vp_in_nI hj (by decide), nm_r (e' := upd x_coefs j (pq_cl v (-32767) 32767)) (by rw [nI_clamp (by omega)]) h⟩))
theorem px_setVec {post : Int32 → St2 → Prop} {j : Nat} {p v : Int32} (e : p = nI j) (hj : j < 8) (h : post 1 (x_length, x_low, x_encoderRange, x_cache, x_pending, x_readPosition, x_decoderRange, x_code, x_decoderStep, x_pulseCounts, x_coefs, x_energies, x_pulses, x_decoded, (upd x_vec j (pq_cl v (-16) 16)), x_sizes, x_packet)) : wpX_setVec post (x_length, x_low, x_encoderRange, x_cache, x_pending, x_readPosition, x_decoderRange, x_code, x_decoderStep, x_pulseCounts, x_coefs, x_energies, x_pulses, x_decoded, x_vec, x_sizes, x_packet) p v := by
  subst e
  refine br_f (nI_pos (by omega)) (br_t (nI_lt (b := 8) hj (by decide)) (px_clamp ⟨vp_in_nI hj (by decide), nm_r (e' := upd x_vec j (pq_cl v (-16) 16)) (by rw [nI_clamp (by omega)]) h⟩))
theorem px_vecAt {post : Int32 → Prop} {j : Nat} (hj : j < 8) (h : post (x_vec j)) : wpX_vecAt post (x_length, x_low, x_encoderRange, x_cache, x_pending, x_readPosition, x_decoderRange, x_code, x_decoderStep, x_pulseCounts, x_coefs, x_energies, x_pulses, x_decoded, x_vec, x_sizes, x_packet) (nI j) := by
  refine br_f (nI_pos (by omega)) (br_t (nI_lt (b := 8) hj (by decide)) ⟨vp_in_nI hj (by decide), ?_⟩)
  rw [nI_clamp (by omega)]
  exact h
theorem px_vecIndex {post : Int32 → Prop} {n : Nat} (h1 : 1 ≤ n) (hn : n ≤ 8) (ht : pq_tb x_sizes) (hv : ∀ i, i < 8 → pq_mg (x_vec i) ≤ 16) (h : post (pq_vi x_vec n)) : wpX_vecIndex post (x_length, x_low, x_encoderRange, x_cache, x_pending, x_readPosition, x_decoderRange, x_code, x_decoderStep, x_pulseCounts, x_coefs, x_energies, x_pulses, x_decoded, x_vec, x_sizes, x_packet) (nI n) :=
  br_f (nI_nlt (b := 1) h1 (by omega)) (br_t (nI_le (b := 8) hn (by decide)) ⟨n + 1, px_vi18 hn ht hv h n 0 (by omega)⟩)
theorem px_pyr {post : Int32 → Prop} {n k : Nat} (hn : n ≤ 8) (hk : k ≤ 16) (ht : pq_tb x_sizes) (h : post (nI (pq_V n k))) : wpX_pyramidSize post (x_length, x_low, x_encoderRange, x_cache, x_pending, x_readPosition, x_decoderRange, x_code, x_decoderStep, x_pulseCounts, x_coefs, x_energies, x_pulses, x_decoded, x_vec, x_sizes, x_packet) (nI n) (nI k) :=
  br_f (nI_pos (by omega)) (br_f (nI_nlt (a := 8) hn (by decide)) (br_f (nI_pos (by omega)) (br_t (nI_le (b := 16) hk (by decide)) (px_size (n := n) (k := k) ht hn hk rfl rfl h))))
theorem px_vecUn {post : Int32 → St2 → Prop} {n k r : Nat} (h1 : 1 ≤ n) (hn : n ≤ 8) (hk : k ≤ 16) (hr : r < pq_V n k) (ht : pq_tb x_sizes)
    (K : ∀ w : Nat → Int32, (∀ t, t < n → w t = pq_y n k r t) → (∀ t, n ≤ t → t < 8 → w t = 0) → post 1 (x_length, x_low, x_encoderRange, x_cache, x_pending, x_readPosition, x_decoderRange, x_code, x_decoderStep, x_pulseCounts, x_coefs, x_energies, x_pulses, x_decoded, w, x_sizes, x_packet)) : wpX_vecUnindex post (x_length, x_low, x_encoderRange, x_cache, x_pending, x_readPosition, x_decoderRange, x_code, x_decoderStep, x_pulseCounts, x_coefs, x_energies, x_pulses, x_decoded, x_vec, x_sizes, x_packet) (nI n) (nI k) (nI r) := by
  have hV := pq_Vle (n := n) (k := k) hn hk
  refine br_f (nI_nlt (b := 1) h1 (by omega)) (br_t (nI_le (b := 8) hn (by decide)) (br_f (nI_pos (by omega)) (br_t (nI_le (b := 16) hk (by decide)) (br_f (nI_pos (by omega)) (px_size (n := n) (k := k) ht hn hk rfl rfl (br_t (nI_lt hr (by omega)) (px_vecun (fr := 0) (n := n) (k := k) (r := r) ht hn (by omega) hk hr rfl rfl rfl rfl ?_)))))))
  intro c' g1 _
  exact ⟨8 - n + 1, px_vu56 (Y := pq_y n k r) hn K (8 - n) n c' (by omega) (Nat.le_refl _) (fun t ht => by have := g1 t ht; rw [Nat.zero_add] at this; exact this) (fun t a b => by omega)⟩
end PLA
