/-! the vectors and the frames -/
theorem pq_M_S (a : Nat → Int32) : ∀ n i, pq_S (fun j => pq_mg (a j)) (i + n) = pq_S (fun j => pq_mg (a j)) i + pq_M a i n := by
  intro n
  induction n with
  | zero => intro i; rfl
  | succ n ih =>
    intro i
    have h := ih (i + 1)
    rw [show i + (n + 1) = i + 1 + n by omega, h]
    show pq_S (fun j => pq_mg (a j)) i + pq_mg (a i) + pq_M a (i + 1) n = pq_S (fun j => pq_mg (a j)) i + (pq_mg (a i) + pq_M a (i + 1) n)
    omega
theorem pq_M_0 (a : Nat → Int32) (n : Nat) : pq_M a 0 n = pq_S (fun j => pq_mg (a j)) n := by
  have h := pq_M_S a n 0
  rw [Nat.zero_add] at h
  rw [h]
  exact (Nat.zero_add _).symm
theorem pq_32 {f g : Nat → Int32} (h : ∀ c j, c < 4 → j < 8 → f (8 * c + j) = g (8 * c + j)) : ∀ i, i < 32 → f i = g i := by
  intro i hi
  have := h (i / 8) (i % 8) (by omega) (by omega)
  rw [Nat.div_add_mod] at this
  exact this
def pq_vi (a : Nat → Int32) (n : Nat) : Int32 := if pq_M a 0 n ≤ 16 then nI (pq_ix a 0 n (pq_M a 0 n)) else -1000000
theorem pq_qf_ext {dq dq' pk : Nat → Int32} {le : Nat} {pc : Nat → Int32} {b : Nat} (h : dq b = dq' b) : pq_qf dq pk le pc b = pq_qf dq' pk le pc b := by
  unfold pq_qf
  rw [h]
theorem pq_qn_ext {dq dq' pk : Nat → Int32} {le : Nat} {pc : Nat → Int32} {b : Nat} (h : dq b = dq' b) : pq_qn dq pk le pc b = pq_qn dq' pk le pc b := by
  unfold pq_qn
  rw [pq_qf_ext h]
section PQV
variable {x_length x_cache x_pending x_readPosition : Int32} {x_low x_encoderRange x_decoderRange x_code x_decoderStep : Int64} {x_pulseCounts x_coefs x_energies x_pulses x_decoded x_vec x_sizes x_packet : Nat → Int32}
variable {y_pktLen y_pending y_rpos : Int32} {y_low y_rng y_cache y_drng y_dcode y_dr : Int64} {y_kb y_inp y_encQ y_encP y_decQ y_decP y_decC y_pkt y_vec y_work y_vt : Nat → Int32}
variable {le : Nat} {pc co pk : Nat → Int32}
theorem px_vi18 {post : Int32 → Prop} {n : Nat} (hn : n ≤ 8) (ht : pq_tb x_sizes) (hv : ∀ i, i < 8 → pq_mg (x_vec i) ≤ 16) (h : post (pq_vi x_vec n)) : ∀ d i, i + d = n → wX_vecIndex_18 post (nI n) x_length x_low x_encoderRange x_cache x_pending x_readPosition x_decoderRange x_code x_decoderStep x_pulseCounts x_coefs x_energies x_pulses x_decoded x_vec x_sizes x_packet (d + 1) (nI (pq_S (fun j => pq_mg (x_vec j)) i)) (nI i) := by
  have hS : ∀ i, i ≤ n → pq_S (fun j => pq_mg (x_vec j)) i ≤ i * 16 := fun i hi => pq_S_le _ _ i (fun j hj => hv j (by omega))
  intro d
  induction d with
  | zero =>
    intro i hi
    have e : i = n := by omega
    subst e
    have hM := pq_M_0 x_vec i
    have hb := hS i (Nat.le_refl _)
    rw [← hM] at hb ⊢
    unfold pq_vi at h
    refine br_t (nI_le (Nat.le_refl _) (by omega)) ?_
    by_cases c : pq_M x_vec 0 i ≤ 16
    · rw [if_pos c] at h
      refine br_t (nI_le (b := 16) c (by decide)) (px_vecix (fr := 0) (n := i) (k := pq_M x_vec 0 i) ht hn (by omega) c ?_ rfl rfl rfl ?_)
      · exact pq_M_ext i 0 (fun j _ _ => by rw [Nat.zero_add])
      · rw [pq_ix_ext (a := fun j => x_vec (0 + j)) (c := x_vec) i 0 _ (fun j _ _ => by rw [Nat.zero_add])]
        exact h
    · rw [if_neg c] at h
      exact br_f (nI_ge (b := pq_M x_vec 0 i) (a := 16) (by omega) (by omega)) h
  | succ d ih =>
    intro i hi
    have hb := hS i (by omega)
    refine br_f (nI_ge (by omega) (by omega)) ⟨vp_in_nI (by omega) (by decide), ?_⟩
    rw [nI_clamp (by omega)]
    exact px_mag (nm_r (nI_add _ _) (nm_r (nI_1 i) (ih (i + 1) (by omega))))
theorem py_vi18 {post : Int32 → SY → Prop} {n : Nat} (hn : n ≤ 8) (ht : pq_tb y_vt) (hv : ∀ i, i < 8 → pq_mg (y_vec i) ≤ 16) (h : ∀ w : Nat → Int32, post (pq_vi y_vec n) (y_pktLen, y_low, y_rng, y_cache, y_pending, y_rpos, y_drng, y_dcode, y_dr, y_kb, y_inp, y_encQ, y_encP, y_decQ, y_decP, y_decC, y_pkt, y_vec, w, y_vt)) : ∀ d i (w : Nat → Int32), i + d = n → (∀ t, t < i → w t = y_vec t) → wY_vecIndex_18 post (nI n) y_pktLen y_low y_rng y_cache y_pending y_rpos y_drng y_dcode y_dr (d + 1) (nI (pq_S (fun j => pq_mg (y_vec j)) i)) (nI i) y_kb y_inp y_encQ y_encP y_decQ y_decP y_decC y_pkt y_vec w y_vt := by
  have hS : ∀ i, i ≤ n → pq_S (fun j => pq_mg (y_vec j)) i ≤ i * 16 := fun i hi => pq_S_le _ _ i (fun j hj => hv j (by omega))
  intro d
  induction d with
  | zero =>
    intro i w hi hw
    have e : i = n := by omega
    subst e
    have hM := pq_M_0 y_vec i
    have hb := hS i (Nat.le_refl _)
    rw [← hM] at hb ⊢
    have h2 := h w
    unfold pq_vi at h2
    refine br_t (nI_le (Nat.le_refl _) (by omega)) ?_
    by_cases c : pq_M y_vec 0 i ≤ 16
    · rw [if_pos c] at h2
      refine br_t (nI_le (b := 16) c (by decide)) (py_ix (y_work := w) (n := i) (k := pq_M y_vec 0 i) ht hn c ?_ rfl rfl ?_)
      · exact pq_M_ext i 0 (fun j _ hj => hw j (by omega))
      · rw [pq_ix_ext (a := w) (c := y_vec) i 0 _ (fun j _ hj => hw j (by omega))]
        exact h2
    · rw [if_neg c] at h2
      exact br_f (nI_ge (b := pq_M y_vec 0 i) (a := 16) (by omega) (by omega)) h2
  | succ d ih =>
    intro i w hi hw
    have hb := hS i (by omega)
    have i1 : vp_in (nI i) 8 := vp_in_nI (by omega) (by decide)
    have IH := ih (i + 1) (upd w i (y_vec i)) (by omega) (by
      intro t ht
      by_cases z : t = i
      · subst z; exact pk_us
      · rw [pk_un z]; exact hw t (by omega))
    refine br_f (nI_ge (by omega) (by omega)) ⟨i1, i1, nm_r (e' := upd w i (y_vec i)) (by rw [nI_clamp (by omega)]) ⟨i1, ?_⟩⟩
    rw [nI_clamp (by omega)]
    by_cases c : y_vec i < 0
    · exact br_f (pq_nle0 c) ⟨i1, nm_r (e' := nI (pq_S (fun j => pq_mg (y_vec j)) (i + 1))) (by rw [pq_mg_n c, nI_add]; rfl) (nm_r (nI_1 i) IH)⟩
    · refine br_t (pq_nlt0 c) ⟨i1, nm_r (e' := nI (pq_S (fun j => pq_mg (y_vec j)) (i + 1))) ?_ (nm_r (nI_1 i) IH)⟩
      have e := pq_mg_p c
      have e2 : nI (pq_S (fun j => pq_mg (y_vec j)) i) + nI (pq_mg (y_vec i)) = nI (pq_S (fun j => pq_mg (y_vec j)) (i + 1)) := nI_add _ _
      rw [← e] at e2
      exact e2
theorem pq_vi_ext {a c : Nat → Int32} {n : Nat} (h : ∀ i, i < n → a i = c i) : pq_vi a n = pq_vi c n := by
  have e := pq_M_ext (a := a) (c := c) n 0 (fun j _ hj => h j (by omega))
  unfold pq_vi
  rw [e, pq_ix_ext (a := a) (c := c) n 0 _ (fun j _ hj => h j (by omega))]
theorem i_vc_vecIndex {k : Nat} {u : SX} {v : SY} (I : i_Rel k u v) (hk : k + 4 ≤ 2052) (v1 : Int32) : wpX_vecIndex (fun r => wpY_vecIndex (fun r' v' => r' = r ∧ i_Rel (k + 4) u v') v v1) u v1 := by
  obtain ⟨le, pc, co, pk, x_low, x_encoderRange, x_cache, x_pending, x_readPosition, x_decoderRange, x_code, x_decoderStep, x_energies, x_pulses, x_decoded, x_vec, x_sizes, y_low, y_rng, y_cache, y_pending, y_rpos, y_drng, y_dcode, y_dr, y_encQ, y_encP, y_decQ, y_decP, y_decC, y_vec, y_work, y_vt, rfl, rfl, hl, hk, hc, hB, ht, ht2, hq, e1, e2, p1, p2, dC, vv⟩ := I
  have F : pq_F le pc co pk x_energies x_pulses x_decoded x_vec x_sizes y_encQ y_encP y_decQ y_decP y_decC y_vec y_vt := ⟨hl, hk, hc, hB, ht, ht2, hq, e1, e2, p1, p2, dC, vv⟩
  rcases pq_rng v1 (n := 9) (m := 8) rfl (by decide) with a | ⟨a, _, c, d⟩ | ⟨n, hn, rfl⟩
  · have a1 : v1 < 1 := Int32.lt_trans a (by decide)
    exact br_t a1 (br_t a1 ⟨rfl, pq_mk F⟩)
  · have a1 : ¬ v1 < 1 := by
      intro y
      have y1 := Int32.lt_iff_toInt_lt.mp y
      have y2 := Int32.le_iff_toInt_le.mp d
      rw [nI_toInt (by decide)] at y2
      rw [show (1 : Int32).toInt = 1 by decide] at y1
      omega
    exact br_f a1 (br_f c (br_f a1 (br_f c ⟨rfl, pq_mk F⟩)))
  · by_cases z : n = 0
    · subst z
      have a1 : nI 0 < 1 := by decide
      exact br_t a1 (br_t a1 ⟨rfl, pq_mk F⟩)
    · have a1 : ¬ nI n < 1 := nI_nlt (b := 1) (by omega) (by omega)
      have a2 : nI n ≤ 8 := nI_le (b := 8) (by omega) (by decide)
      refine br_f a1 (br_t a2 ⟨n + 1, px_vi18 (by omega) ht (fun i hi => (vv i hi).2) ?_ n 0 (by omega)⟩)
      refine br_f a1 (br_t a2 ⟨n + 1, py_vi18 (by omega) ht2 (fun i hi => by rw [← (vv i hi).1]; exact (vv i hi).2) ?_ n 0 y_work (by omega) (fun t h => absurd h (Nat.not_lt_zero t))⟩)
      intro w
      exact ⟨pq_vi_ext (fun i hi => (vv i (by omega)).1.symm), pq_mk F⟩
theorem px_vu56 {post : Int32 → SX → Prop} {n : Nat} {Y : Nat → Int32} (hn : n ≤ 8) (K : ∀ w : Nat → Int32, (∀ t, t < n → w t = Y t) → (∀ t, n ≤ t → t < 8 → w t = 0) → post 1 (x_length, x_low, x_encoderRange, x_cache, x_pending, x_readPosition, x_decoderRange, x_code, x_decoderStep, x_pulseCounts, x_coefs, x_energies, x_pulses, x_decoded, w, x_sizes, x_packet)) : ∀ d i (w : Nat → Int32), i + d = 8 → n ≤ i → (∀ t, t < n → w t = Y t) → (∀ t, n ≤ t → t < i → w t = 0) → wX_vecUnindex_56 post x_length x_low x_encoderRange x_cache x_pending x_readPosition x_decoderRange x_code x_decoderStep (d + 1) (nI i) x_pulseCounts x_coefs x_energies x_pulses x_decoded w x_sizes x_packet := by
  intro d
  induction d with
  | zero =>
    intro i w hi hi2 h1 h2
    have e : i = 8 := by omega
    subst e
    exact br_t (nI_le (a := 8) (Nat.le_refl _) (by decide)) (K w h1 h2)
  | succ d ih =>
    intro i w hi hi2 h1 h2
    refine br_f (nI_ge (b := 8) (by omega) (by decide)) ⟨vp_in_nI (by omega) (by decide), nm_r (e' := upd w i 0) (by rw [nI_clamp (by omega)]) (nm_r (nI_1 i) (ih (i + 1) _ (by omega) (by omega) ?_ ?_))⟩
    · intro t ht
      rw [pk_un (by omega)]
      exact h1 t ht
    · intro t ht1 ht2
      by_cases z : t = i
      · subst z; exact pk_us
      · rw [pk_un z]; exact h2 t ht1 (by omega)
theorem py_vu51 {post : Int32 → SY → Prop} (K : ∀ w : Nat → Int32, (∀ t, t < 8 → w t = y_work t) → post 1 (y_pktLen, y_low, y_rng, y_cache, y_pending, y_rpos, y_drng, y_dcode, y_dr, y_kb, y_inp, y_encQ, y_encP, y_decQ, y_decP, y_decC, y_pkt, w, y_work, y_vt)) : ∀ d i (w : Nat → Int32), i + d = 8 → (∀ t, t < i → w t = y_work t) → wY_vecUnindex_51 post y_pktLen y_low y_rng y_cache y_pending y_rpos y_drng y_dcode y_dr (d + 1) (nI i) y_kb y_inp y_encQ y_encP y_decQ y_decP y_decC y_pkt w y_work y_vt := by
  intro d
  induction d with
  | zero =>
    intro i w hi h1
    have e : i = 8 := by omega
    subst e
    exact br_t (nI_le (a := 8) (Nat.le_refl _) (by decide)) (K w h1)
  | succ d ih =>
    intro i w hi h1
    have i1 : vp_in (nI i) 8 := vp_in_nI (by omega) (by decide)
    refine br_f (nI_ge (b := 8) (by omega) (by decide)) ⟨i1, i1, nm_r (e' := upd w i (y_work i)) (by rw [nI_clamp (by omega)]) (nm_r (nI_1 i) (ih (i + 1) _ (by omega) ?_))⟩
    intro t ht
    by_cases z : t = i
    · subst z; exact pk_us
    · rw [pk_un z]; exact h1 t (by omega)
theorem i_vc_vecUnindex {k : Nat} {u : SX} {v : SY} (I : i_Rel k u v) (hk : k + 4 ≤ 2052) (v1 : Int32) (v2 : Int32) (v3 : Int32) : wpX_vecUnindex (fun r u' => wpY_vecUnindex (fun r' v' => r' = r ∧ i_Rel (k + 4) u' v') v v1 v2 v3) u v1 v2 v3 := by
  obtain ⟨le, pc, co, pk, x_low, x_encoderRange, x_cache, x_pending, x_readPosition, x_decoderRange, x_code, x_decoderStep, x_energies, x_pulses, x_decoded, x_vec, x_sizes, y_low, y_rng, y_cache, y_pending, y_rpos, y_drng, y_dcode, y_dr, y_encQ, y_encP, y_decQ, y_decP, y_decC, y_vec, y_work, y_vt, rfl, rfl, hl, hk, hc, hB, ht, ht2, hq, e1, e2, p1, p2, dC, vv⟩ := I
  have F : pq_F le pc co pk x_energies x_pulses x_decoded x_vec x_sizes y_encQ y_encP y_decQ y_decP y_decC y_vec y_vt := ⟨hl, hk, hc, hB, ht, ht2, hq, e1, e2, p1, p2, dC, vv⟩
  rcases pq_rng v1 (n := 9) (m := 8) rfl (by decide) with a | ⟨a, _, c, d⟩ | ⟨n, hn, rfl⟩
  · have a1 : v1 < 1 := Int32.lt_trans a (by decide)
    exact br_t a1 (br_t a1 ⟨rfl, pq_mk F⟩)
  · have a1 : ¬ v1 < 1 := by
      intro y
      have y1 := Int32.lt_iff_toInt_lt.mp y
      have y2 := Int32.le_iff_toInt_le.mp d
      rw [nI_toInt (by decide)] at y2
      rw [show (1 : Int32).toInt = 1 by decide] at y1
      omega
    exact br_f a1 (br_f c (br_f a1 (br_f c ⟨rfl, pq_mk F⟩)))
  · by_cases z : n = 0
    · subst z
      have a1 : nI 0 < 1 := by decide
      exact br_t a1 (br_t a1 ⟨rfl, pq_mk F⟩)
    · have a1 : ¬ nI n < 1 := nI_nlt (b := 1) (by omega) (by omega)
      have a2 : nI n ≤ 8 := nI_le (b := 8) (by omega) (by decide)
      rcases pq_rng v2 (n := 17) (m := 16) rfl (by decide) with b | ⟨b, _, c, _⟩ | ⟨q, hq2, rfl⟩
      · exact br_f a1 (br_t a2 (br_t b (br_f a1 (br_t a2 (br_t b ⟨rfl, pq_mk F⟩)))))
      · exact br_f a1 (br_t a2 (br_f b (br_f c (br_f a1 (br_t a2 (br_f b (br_f c ⟨rfl, pq_mk F⟩)))))))
      · have b1 : ¬ nI q < 0 := nI_pos (by omega)
        have b2 : nI q ≤ 16 := nI_le (b := 16) (by omega) (by decide)
        have hV := pq_Vle (n := n) (k := q) (by omega) (by omega)
        by_cases c : v3 < 0
        · exact br_f a1 (br_t a2 (br_f b1 (br_t b2 (br_t c (br_f a1 (br_t a2 (br_f b1 (br_t b2 (br_t c ⟨rfl, pq_mk F⟩)))))))))
        · obtain ⟨r, hr, rfl⟩ := nI_of c
          refine br_f a1 (br_t a2 (br_f b1 (br_t b2 (br_f c (px_size (n := n) (k := q) ht (by omega) (by omega) rfl rfl ?_)))))
          by_cases w : r < pq_V n q
          · have w1 : nI r < nI (pq_V n q) := nI_lt w (by omega)
            refine br_t w1 (px_vecun (fr := 0) (n := n) (k := q) (r := r) ht (by omega) (by omega) (by omega) w rfl rfl rfl rfl ?_)
            intro c' g1 _
            refine ⟨8 - n + 1, px_vu56 (Y := pq_y n q r) (by omega) ?_ (8 - n) n c' (by omega) (Nat.le_refl _) (fun t ht => by have := g1 t ht; rw [Nat.zero_add] at this; exact this) (fun t a b => by omega)⟩
            intro wx s1 s2
            refine br_f a1 (br_t a2 (br_f b1 (br_t b2 (br_f c (py_vv (n := n) (k := q) ht2 (by omega) (by omega) rfl rfl (br_t w1 (py_un (n := n) (k := q) (r := r) ht2 (by omega) (by omega) w rfl rfl rfl ?_)))))))
            intro wk t1 t2
            refine ⟨9, py_vu51 ?_ 8 0 y_vec (by omega) (fun t h => absurd h (Nat.not_lt_zero t))⟩
            intro wy r1
            refine ⟨rfl, pq_mk ⟨hl, hk, hc, hB, ht, ht2, hq, e1, e2, p1, p2, dC, ?_⟩⟩
            intro i hi
            by_cases y : i < n
            · rw [s1 i y, r1 i hi, t1 i y]
              exact ⟨rfl, pq_y_mg (by omega) (by omega) w y⟩
            · rw [s2 i (by omega) hi, r1 i hi, t2 i (by omega) hi]
              exact ⟨rfl, by decide⟩
          · have w1 : ¬ nI r < nI (pq_V n q) := nI_nlt (by omega) hr
            exact br_f w1 (br_f a1 (br_t a2 (br_f b1 (br_t b2 (br_f c (py_vv (n := n) (k := q) ht2 (by omega) (by omega) rfl rfl (br_f w1 ⟨rfl, pq_mk F⟩)))))))
theorem i_vc_encodeFrame {k : Nat} {u : SX} {v : SY} (I : i_Rel k u v) (hk : k + 4 ≤ 2052) : wpX_encodeFrame (fun r u' => wpY_encodeFrame (fun r' v' => r' = r ∧ i_Rel (k + 4) u' v') v) u := by
  obtain ⟨le, pc, co, pk, x_low, x_encoderRange, x_cache, x_pending, x_readPosition, x_decoderRange, x_code, x_decoderStep, x_energies, x_pulses, x_decoded, x_vec, x_sizes, y_low, y_rng, y_cache, y_pending, y_rpos, y_drng, y_dcode, y_dr, y_encQ, y_encP, y_decQ, y_decP, y_decC, y_vec, y_work, y_vt, rfl, rfl, hl, hk, hc, hB, ht, ht2, hq, e1, e2, p1, p2, dC, vv⟩ := I
  have hqY : pq_HQ y_encQ := by
    intro b hb
    rw [← e1 b hb]
    exact hq b hb
  have E : pq_eb (pq_clr pk 64) co pc x_energies 4 = pq_eb (pq_clr pk 64) co pc y_encQ 4 := pq_eb_ext 4 (fun j hj => e1 j hj)
  have W := pq_fl_w 5 _ _ (pq_eb_s (pq_clr_B hB 64) hc hk hqY 4 (Nat.le_refl _)).1
  refine px_encode hB ht hc hk hq ?_
  intro en pu a1 a2 a3 a4
  rw [E]
  refine py_encode hB ht2 hc hk hqY ?_
  intro en' pu' wk b1 b2
  refine ⟨rfl, pq_mk ⟨W.2.2.1, hk, hc, W.2.2.2, ht, ht2, ?_, ?_, ?_, ?_, ?_, dC, vv⟩⟩
  · intro b hb
    exact ⟨pq_q co b, pq_q_le hc hb, a1 b hb⟩
  · intro j hj
    rw [a1 j hj, b1 j hj]
  · intro j hj
    rw [a2 (4 + j) (by omega)]
    exact e2 j hj
  · exact pq_32 (fun c j hc2 hj => by rw [a3 c j hc2 hj, b2 c j hc2 hj])
  · intro i hi
    rw [a4 (32 + i) (by omega)]
    exact p2 i hi
theorem i_vc_decodeFrame {k : Nat} {u : SX} {v : SY} (I : i_Rel k u v) (hk : k + 4 ≤ 2052) : wpX_decodeFrame (fun u' => wpY_decodeFrame (fun v' => i_Rel (k + 4) u' v') v) u := by
  obtain ⟨le, pc, co, pk, x_low, x_encoderRange, x_cache, x_pending, x_readPosition, x_decoderRange, x_code, x_decoderStep, x_energies, x_pulses, x_decoded, x_vec, x_sizes, y_low, y_rng, y_cache, y_pending, y_rpos, y_drng, y_dcode, y_dr, y_encQ, y_encP, y_decQ, y_decP, y_decC, y_vec, y_work, y_vt, rfl, rfl, hl, hk, hc, hB, ht, ht2, hq, e1, e2, p1, p2, dC, vv⟩ := I
  refine px_decode hB hl ht hk ?_
  intro ds en pu de F a b
  refine py_decode hB hl ht2 hk ?_
  intro dr en' pu' de' wk F'
  refine pq_mk ⟨hl, hk, hc, hB, ht, ht2, ?_, ?_, ?_, ?_, ?_, ?_, vv⟩
  · intro j hj
    rw [a j hj]
    exact hq j hj
  · intro j hj
    rw [a j hj]
    exact e1 j hj
  · intro j hj
    have f1 : en (4 + j) = pq_qf (fun j => x_energies (4 + j)) pk le pc j := F.1 j hj
    rw [f1, F'.1 j hj]
    exact pq_qf_ext (e2 j hj)
  · intro i hi
    rw [b i hi]
    exact p1 i hi
  · exact pq_32 (f := fun i => pu (32 + i)) (fun c j hc2 hj => (F.2.1 c j hc2 hj).trans (F'.2.1 c j hc2 hj).symm)
  · refine pq_32 (fun c j hc2 hj => ?_)
    rw [F.2.2 c j hc2 hj, F'.2.2 c j hc2 hj, pq_qn_ext (dq := fun j => x_energies (4 + j)) (dq' := y_decQ) (b := c) (e2 c hc2)]
end PQV
