/-! a frame, encoded -/
theorem pq_ix_ext {a c : Nat → Int32} : ∀ n i k, (∀ j, i ≤ j → j < i + n → a j = c j) → pq_ix a i n k = pq_ix c i n k := by
  intro n
  induction n with
  | zero => intro i k _; rfl
  | succ n ih =>
    intro i k h
    show pq_W n k (pq_mg (a i)) + (if a i < 0 then pq_V n (k - pq_mg (a i)) else 0) + pq_ix a (i + 1) n (k - pq_mg (a i)) = pq_W n k (pq_mg (c i)) + (if c i < 0 then pq_V n (k - pq_mg (c i)) else 0) + pq_ix c (i + 1) n (k - pq_mg (c i))
    rw [h i (Nat.le_refl _) (by omega), ih (i + 1) _ (fun j h1 h2 => h j (by omega) (by omega))]
theorem pq_M_ext {a c : Nat → Int32} : ∀ n i, (∀ j, i ≤ j → j < i + n → a j = c j) → pq_M a i n = pq_M c i n := by
  intro n
  induction n with
  | zero => intro i _; rfl
  | succ n ih =>
    intro i h
    show pq_mg (a i) + pq_M a (i + 1) n = pq_mg (c i) + pq_M c (i + 1) n
    rw [h i (Nat.le_refl _) (by omega), ih (i + 1) (fun j h1 h2 => h j (by omega) (by omega))]
theorem pq_eb_ext {pk co pc eq eq' : Nat → Int32} : ∀ b, (∀ j, j < b → eq j = eq' j) → pq_eb pk co pc eq b = pq_eb pk co pc eq' b := by
  intro b
  induction b with
  | zero => intro _; rfl
  | succ b ih =>
    intro h
    have h1 := ih (fun j hj => h j (by omega))
    have h2 : pq_k eq b = pq_k eq' b := by unfold pq_k; rw [h b (by omega)]
    show pq_cp (pq_ee co eq b (pq_eb pk co pc eq b)) _ _ = pq_cp (pq_ee co eq' b (pq_eb pk co pc eq' b)) _ _
    unfold pq_ee pq_sb
    rw [h1, h2]
theorem pq_neg2 {q p : Nat} (h : q < p) : (-2) * (nI q - nI p) - 1 = nI (2 * (p - q) - 1) := by
  have e : nI (2 * (p - q) - 1) = 2 * (nI p - nI q) - 1 := by
    rw [← pk_sub (show 1 ≤ 2 * (p - q) by omega), ← pq_2i, ← pk_sub (show q ≤ p by omega)]
    rfl
  rw [e]
  generalize nI p = a
  generalize nI q = c
  grind
theorem pq_pos2 {q p : Nat} (h : p ≤ q) : 2 * (nI q - nI p) = nI (2 * (q - p)) := by
  rw [pk_sub h, pq_2i]
theorem pq_pred {q : Nat} (h : q ≤ 33) : (3 * nI q + 2) / 4 = nI ((3 * q + 2) / 4) := by
  rw [show (3 : Int32) = nI 3 from rfl, pk_mul, show (2 : Int32) = nI 2 from rfl, nI_add, show (4 : Int32) = nI 4 from rfl, pk_div (by omega) (by decide) (by decide)]
section PQA
variable {x_length x_cache x_pending x_readPosition : Int32} {x_low x_encoderRange x_decoderRange x_code x_decoderStep : Int64} {x_pulseCounts x_coefs x_energies x_pulses x_decoded x_vec x_sizes x_packet : Nat → Int32}
variable {b : Nat}
theorem px_se29 {post : St2 → Prop} (h : post (x_length, x_low, x_encoderRange, x_cache, x_pending, x_readPosition, x_decoderRange, x_code, x_decoderStep, x_pulseCounts, x_coefs, x_energies, x_pulses, x_decoded, x_vec, x_sizes, (pq_clr x_packet 64))) : ∀ d i, i + d = 64 → wX_startEncoder_29 post x_length x_low x_encoderRange x_cache x_pending x_readPosition x_decoderRange x_code x_decoderStep (d + 1) (nI i) x_pulseCounts x_coefs x_energies x_pulses x_decoded x_vec x_sizes (pq_clr x_packet i) := by
  intro d
  induction d with
  | zero =>
    intro i hi
    have e : i = 64 := by omega
    subst e
    exact br_t (nI_le (a := 64) (Nat.le_refl _) (by decide)) h
  | succ d ih =>
    intro i hi
    exact br_f (nI_ge (b := 64) (by omega) (by decide)) ⟨vp_in_nI (by omega) (by decide), nm_r (e' := pq_clr x_packet (i + 1)) (by rw [nI_clamp (by omega)]; rfl) (nm_r (nI_1 i) (ih (i + 1) (by omega)))⟩
theorem px_se {post : St2 → Prop} {co pc eq : Nat → Int32} (h : post (nI ((pq_eb (pq_clr x_packet 64) co pc eq 0)).2.2.2.2.1, lN ((pq_eb (pq_clr x_packet 64) co pc eq 0)).1, lN ((pq_eb (pq_clr x_packet 64) co pc eq 0)).2.1, nI ((pq_eb (pq_clr x_packet 64) co pc eq 0)).2.2.1, nI ((pq_eb (pq_clr x_packet 64) co pc eq 0)).2.2.2.1, x_readPosition, x_decoderRange, x_code, x_decoderStep, x_pulseCounts, x_coefs, x_energies, x_pulses, x_decoded, x_vec, x_sizes, ((pq_eb (pq_clr x_packet 64) co pc eq 0)).2.2.2.2.2)) : wpX_startEncoder post (x_length, x_low, x_encoderRange, x_cache, x_pending, x_readPosition, x_decoderRange, x_code, x_decoderStep, x_pulseCounts, x_coefs, x_energies, x_pulses, x_decoded, x_vec, x_sizes, x_packet) :=
  ⟨65, px_se29 h 64 0 (by omega)⟩
theorem px_be5 {post : Int64 → Prop} (hb : b < 4) (h : post (lN (pq_e x_coefs b))) : ∀ d j, j + d = 8 → wX_bandEnergy_5 post (nI b) x_length x_low x_encoderRange x_cache x_pending x_readPosition x_decoderRange x_code x_decoderStep x_pulseCounts x_coefs x_energies x_pulses x_decoded x_vec x_sizes x_packet (d + 1) (lN (pq_S (fun j => pq_mg (x_coefs (8 * b + j)) * pq_mg (x_coefs (8 * b + j))) j)) (nI j) := by
  intro d
  induction d with
  | zero =>
    intro j hj
    have e : j = 8 := by omega
    subst e
    exact br_t (nI_le (a := 8) (Nat.le_refl _) (by decide)) h
  | succ d ih =>
    intro j hj
    refine br_f (nI_ge (b := 8) (by omega) (by decide)) ⟨pk_in (8 * b + j) 32 (by omega) (pq_i8 _ _), nm_r (e' := (x_coefs (8 * b + j)).toInt64) (by rw [pq_i8, nI_clamp (by omega)]) (nm_r ?_ (nm_r (nI_1 j) (ih (j + 1) (by omega))))⟩
    rw [pq_mgL, lN_add]
    rfl
theorem px_be {post : Int64 → Prop} (hb : b < 4) (h : post (lN (pq_e x_coefs b))) : wpX_bandEnergy post (x_length, x_low, x_encoderRange, x_cache, x_pending, x_readPosition, x_decoderRange, x_code, x_decoderStep, x_pulseCounts, x_coefs, x_energies, x_pulses, x_decoded, x_vec, x_sizes, x_packet) (nI b) :=
  ⟨9, px_be5 hb h 8 0 (by omega)⟩
theorem px_ce22 {post : St2 → Prop} {B s : Nat} {e : pq_E} (hE : pq_EI B e) (hB : B + 2 < 2 ^ 20) (hs : s < 67) (h : post (nI ((pq_cd e (pq_st s) (pq_f s) 150)).2.2.2.2.1, lN ((pq_cd e (pq_st s) (pq_f s) 150)).1, lN ((pq_cd e (pq_st s) (pq_f s) 150)).2.1, nI ((pq_cd e (pq_st s) (pq_f s) 150)).2.2.1, nI ((pq_cd e (pq_st s) (pq_f s) 150)).2.2.2.1, x_readPosition, x_decoderRange, x_code, x_decoderStep, x_pulseCounts, x_coefs, x_energies, x_pulses, x_decoded, x_vec, x_sizes, ((pq_cd e (pq_st s) (pq_f s) 150)).2.2.2.2.2)) : ∀ d i, i + d = s → wX_codeEnergy_22 post (nI s) (nI e.2.2.2.2.1) (lN e.1) (lN e.2.1) (nI e.2.2.1) (nI e.2.2.2.1) x_readPosition x_decoderRange x_code x_decoderStep x_pulseCounts x_coefs x_energies x_pulses x_decoded x_vec x_sizes e.2.2.2.2.2 (d + 1) (nI (pq_st i)) (nI i) := by
  have ⟨a1, a2, _⟩ := pq_f_s s hs
  intro d
  induction d with
  | zero =>
    intro i hi
    have e : i = s := by omega
    subst e
    exact br_t (nI_le (Nat.le_refl _) (by omega)) (px_sym (s := i) rfl (by omega) (px_cd hE hB (by decide) (by decide) a2 a1 rfl rfl rfl h))
  | succ d ih =>
    intro i hi
    exact br_f (nI_ge (by omega) (by omega)) (px_sym (s := i) rfl (by omega) (nm_r (nI_add _ _) (nm_r (nI_1 i) (ih (i + 1) (by omega)))))
theorem px_ce {post : St2 → Prop} {B q p : Nat} {e : pq_E} {p0 : Int32} (e0 : p0 = nI q - nI p) (hq : q ≤ 33) (hp : p ≤ 25) (hE : pq_EI B e) (hB : B + 2 < 2 ^ 20) (h : post (nI ((pq_cd e (pq_st (pq_sm q p)) (pq_f (pq_sm q p)) 150)).2.2.2.2.1, lN ((pq_cd e (pq_st (pq_sm q p)) (pq_f (pq_sm q p)) 150)).1, lN ((pq_cd e (pq_st (pq_sm q p)) (pq_f (pq_sm q p)) 150)).2.1, nI ((pq_cd e (pq_st (pq_sm q p)) (pq_f (pq_sm q p)) 150)).2.2.1, nI ((pq_cd e (pq_st (pq_sm q p)) (pq_f (pq_sm q p)) 150)).2.2.2.1, x_readPosition, x_decoderRange, x_code, x_decoderStep, x_pulseCounts, x_coefs, x_energies, x_pulses, x_decoded, x_vec, x_sizes, ((pq_cd e (pq_st (pq_sm q p)) (pq_f (pq_sm q p)) 150)).2.2.2.2.2)) : wpX_codeEnergy post (nI e.2.2.2.2.1, lN e.1, lN e.2.1, nI e.2.2.1, nI e.2.2.2.1, x_readPosition, x_decoderRange, x_code, x_decoderStep, x_pulseCounts, x_coefs, x_energies, x_pulses, x_decoded, x_vec, x_sizes, e.2.2.2.2.2) p0 := by
  subst e0
  have hs := pq_sm_le hq hp
  by_cases c : p ≤ q
  · have e : pq_sm q p = 2 * (q - p) := if_pos c
    refine br_f (by rw [pk_sub c]; exact nI_pos (by omega)) (nm_r (e' := nI (pq_sm q p)) (by rw [e]; exact pq_pos2 c) ⟨pq_sm q p + 1, px_ce22 hE hB hs h (pq_sm q p) 0 (by omega)⟩)
  · have e : pq_sm q p = 2 * (p - q) - 1 := if_neg c
    refine br_t (pk_sneg (by omega) (by omega)) (nm_r (e' := nI (pq_sm q p)) (by rw [e]; exact pq_neg2 (by omega)) ⟨pq_sm q p + 1, px_ce22 hE hB hs h (pq_sm q p) 0 (by omega)⟩)
theorem pq_shV {a ap : Nat} (h : a < 2 ^ 31) (hp : ap ≤ 8) : nI a >>> (nI ap &&& 31) = nI (a / 2 ^ ap) := pk_shrN h _ _ (s_l ap (by omega))
theorem pq_anV {a ap : Nat} (h : a < 2 ^ 31) (hp : ap ≤ 8) : nI a &&& ((1 : Int32) <<< (nI ap &&& 31) - 1) = nI (a % 2 ^ ap) := by
  rw [pq_p2 ap hp]
  exact pk_andN (by omega) ap (pq_p2m ap hp)
theorem pq_i1 {a : Nat} (h : 1 ≤ a) : nI a - 1 = nI (a - 1) := pk_sub (b := 1) h
theorem px_cp {post : St2 → Prop} {B idx : Nat} {e : pq_E} (hb : b < 4) (ht : pq_tb x_sizes) (hk : pq_HK x_pulseCounts) (hE : pq_EI B e) (hB : B + 4 < 2 ^ 20) (hi : idx = pq_ix (fun j => x_pulses (8 * b + j)) 0 8 (pq_k x_pulseCounts b)) (hM : pq_M (fun j => x_pulses (8 * b + j)) 0 8 = pq_k x_pulseCounts b)
    (h : post (nI ((pq_cp e (pq_k x_pulseCounts b) idx)).2.2.2.2.1, lN ((pq_cp e (pq_k x_pulseCounts b) idx)).1, lN ((pq_cp e (pq_k x_pulseCounts b) idx)).2.1, nI ((pq_cp e (pq_k x_pulseCounts b) idx)).2.2.1, nI ((pq_cp e (pq_k x_pulseCounts b) idx)).2.2.2.1, x_readPosition, x_decoderRange, x_code, x_decoderStep, x_pulseCounts, x_coefs, x_energies, x_pulses, x_decoded, x_vec, x_sizes, ((pq_cp e (pq_k x_pulseCounts b) idx)).2.2.2.2.2)) : wpX_codePulses post (nI e.2.2.2.2.1, lN e.1, lN e.2.1, nI e.2.2.1, nI e.2.2.2.1, x_readPosition, x_decoderRange, x_code, x_decoderStep, x_pulseCounts, x_coefs, x_energies, x_pulses, x_decoded, x_vec, x_sizes, e.2.2.2.2.2) (nI b) := by
  have ⟨k1, k2, k3⟩ := pq_k_s hk hb
  have hlt : idx < pq_V 8 (pq_k x_pulseCounts b) := by rw [hi]; exact pq_ix_lt _ 8 0 _ (by omega) k2 hM
  have hV := pq_Vle (n := 8) (k := pq_k x_pulseCounts b) (by omega) k2
  refine ⟨vp_in_nI hb (by decide), nm_r (e' := nI (pq_k x_pulseCounts b)) (by rw [nI_clamp (by omega)]; exact k3) ?_⟩
  refine px_pulsesix (fr := 8 * b) (n := 8) (k := pq_k x_pulseCounts b) ht (by omega) (by omega) k2 hM (by rw [pq_b8, pq_0i]) rfl rfl ?_
  rw [← hi]
  refine px_size (n := 8) (k := pq_k x_pulseCounts b) ht (by omega) k2 rfl rfl (px_low k2 rfl ?_)
  unfold pq_cp at h
  by_cases c : pq_V 8 (pq_k x_pulseCounts b) ≤ 65536
  · rw [if_pos c] at h
    have a0 : pq_ap (pq_k x_pulseCounts b) = 0 := if_pos c
    refine br_t (by rw [a0]; rfl) (px_cd hE (by omega) (by omega) c (Nat.le_refl _) (by omega) rfl rfl rfl h)
  · rw [if_neg c] at h
    have ⟨a1, a2, a3, _⟩ := pq_ap_s _ (show pq_k x_pulseCounts b < 17 by omega) (by omega)
    have ⟨p1, p2⟩ := pq_ap_p _ a2
    have m : idx / 2 ^ pq_ap (pq_k x_pulseCounts b) ≤ (pq_V 8 (pq_k x_pulseCounts b) - 1) / 2 ^ pq_ap (pq_k x_pulseCounts b) := Nat.div_le_div_right (by omega)
    have r : idx % 2 ^ pq_ap (pq_k x_pulseCounts b) < 2 ^ pq_ap (pq_k x_pulseCounts b) := Nat.mod_lt _ p1
    have e1 := pq_cd_s (start := idx / 2 ^ pq_ap (pq_k x_pulseCounts b)) (size := 1) (total := (pq_V 8 (pq_k x_pulseCounts b) - 1) / 2 ^ pq_ap (pq_k x_pulseCounts b) + 1) hE (Nat.succ_pos _) a3 (Nat.le_refl _) (Nat.succ_le_succ m)
    refine br_f (nI_ne0 (by omega) (by omega)) (px_cd hE (by omega) (Nat.succ_pos _) a3 (Nat.le_refl _) (Nat.succ_le_succ m) (pq_shV (by omega) a2) rfl ?_ (px_cd e1 (by omega) p1 (Nat.le_trans p2 (by decide)) (Nat.le_refl _) r (pq_anV (by omega) a2) rfl (pq_p2 _ a2) h))
    rw [pq_i1 (by omega), pq_shV (by omega) a2, nI_1]
theorem px_fl2 {post : St2 → Prop} : ∀ d i (e : pq_E) (B : Nat), i + d = 5 → pq_EW B e → B + d < 2 ^ 20 → e.1 < 2 ^ 40 → post (nI ((pq_fl d e)).2.2.2.2.1, lN ((pq_fl d e)).1, lN ((pq_fl d e)).2.1, nI ((pq_fl d e)).2.2.1, nI ((pq_fl d e)).2.2.2.1, x_readPosition, x_decoderRange, x_code, x_decoderStep, x_pulseCounts, x_coefs, x_energies, x_pulses, x_decoded, x_vec, x_sizes, ((pq_fl d e)).2.2.2.2.2) → wX_flush_2 post (d + 1) (nI i) (nI e.2.2.2.2.1) (lN e.1) (lN e.2.1) (nI e.2.2.1) (nI e.2.2.2.1) x_readPosition x_decoderRange x_code x_decoderStep x_pulseCounts x_coefs x_energies x_pulses x_decoded x_vec x_sizes e.2.2.2.2.2 := by
  intro d
  induction d with
  | zero =>
    intro i e B hi hw hB hl h
    exact br_t (nI_le (a := 5) (by omega) (by omega)) h
  | succ d ih =>
    intro i e B hi hw hB hl h
    have := pq_sh_1 e
    exact br_f (nI_ge (b := 5) (by omega) (by decide)) (px_sh hw (by omega) hl (nm_r (nI_1 i) (ih (i + 1) (pq_sh e) (B + 1) (by omega) (pq_sh_w hw) (by omega) (by omega) h)))
theorem px_fl {post : St2 → Prop} {e : pq_E} {B : Nat} (hE : pq_EI B e) (hB : B + 5 < 2 ^ 20) (h : post (nI ((pq_fl 5 e)).2.2.2.2.1, lN ((pq_fl 5 e)).1, lN ((pq_fl 5 e)).2.1, nI ((pq_fl 5 e)).2.2.1, nI ((pq_fl 5 e)).2.2.2.1, x_readPosition, x_decoderRange, x_code, x_decoderStep, x_pulseCounts, x_coefs, x_energies, x_pulses, x_decoded, x_vec, x_sizes, ((pq_fl 5 e)).2.2.2.2.2)) : wpX_flush post (nI e.2.2.2.2.1, lN e.1, lN e.2.1, nI e.2.2.1, nI e.2.2.2.1, x_readPosition, x_decoderRange, x_code, x_decoderStep, x_pulseCounts, x_coefs, x_energies, x_pulses, x_decoded, x_vec, x_sizes, e.2.2.2.2.2) :=
  ⟨6, px_fl2 5 0 e B (by omega) hE.1 (by omega) (by have := hE.2.1; omega) h⟩
theorem px_6 {post : Int32 → St2 → Prop} {pk : Nat → Int32} (hp : pq_B pk) (ht : pq_tb x_sizes) (hc : pq_HC x_coefs) (hk : pq_HK x_pulseCounts) (hq : pq_HQ x_energies)
    (K : ∀ en pu : Nat → Int32, (∀ j, j < 4 → en j = nI (pq_q x_coefs j)) → (∀ j, 4 ≤ j → en j = x_energies j) → (∀ c j, c < 4 → j < 8 → pu (8 * c + j) = pq_yv x_coefs c (pq_k x_pulseCounts c) j) → (∀ i, 32 ≤ i → pu i = x_pulses i) →
      post (nI (pq_fl 5 (pq_eb pk x_coefs x_pulseCounts x_energies 4)).2.2.2.2.1) (nI ((pq_fl 5 (pq_eb pk x_coefs x_pulseCounts x_energies 4))).2.2.2.2.1, lN ((pq_fl 5 (pq_eb pk x_coefs x_pulseCounts x_energies 4))).1, lN ((pq_fl 5 (pq_eb pk x_coefs x_pulseCounts x_energies 4))).2.1, nI ((pq_fl 5 (pq_eb pk x_coefs x_pulseCounts x_energies 4))).2.2.1, nI ((pq_fl 5 (pq_eb pk x_coefs x_pulseCounts x_energies 4))).2.2.2.1, x_readPosition, x_decoderRange, x_code, x_decoderStep, x_pulseCounts, x_coefs, en, pu, x_decoded, x_vec, x_sizes, ((pq_fl 5 (pq_eb pk x_coefs x_pulseCounts x_energies 4))).2.2.2.2.2)) :
    ∀ d b (en pu : Nat → Int32), b + d = 4 → (∀ j, j < b → en j = nI (pq_q x_coefs j)) → (∀ j, b ≤ j → en j = x_energies j) → (∀ c j, c < b → j < 8 → pu (8 * c + j) = pq_yv x_coefs c (pq_k x_pulseCounts c) j) → (∀ i, 8 * b ≤ i → pu i = x_pulses i) →
    wX_encodeFrame_6 post (d + 1) (nI b) (nI ((pq_eb pk x_coefs x_pulseCounts x_energies b)).2.2.2.2.1) (lN ((pq_eb pk x_coefs x_pulseCounts x_energies b)).1) (lN ((pq_eb pk x_coefs x_pulseCounts x_energies b)).2.1) (nI ((pq_eb pk x_coefs x_pulseCounts x_energies b)).2.2.1) (nI ((pq_eb pk x_coefs x_pulseCounts x_energies b)).2.2.2.1) x_readPosition x_decoderRange x_code x_decoderStep x_pulseCounts x_coefs en pu x_decoded x_vec x_sizes (((pq_eb pk x_coefs x_pulseCounts x_energies b)).2.2.2.2.2) := by
  intro d
  induction d with
  | zero =>
    intro b en pu hb h1 h2 h3 h4
    have e : b = 4 := by omega
    subst e
    exact br_t (nI_le (a := 4) (Nat.le_refl _) (by decide)) (px_fl (pq_eb_s hp hc hk hq 4 (by omega)) (by omega) (K en pu h1 h2 h3 h4))
  | succ d ih =>
    intro b en pu hb h1 h2 h3 h4
    have hb4 : b < 4 := by omega
    have hE := pq_eb_s hp hc hk hq b (by omega)
    have hq1 := pq_q_le hc hb4
    have ⟨hq2, hq3⟩ := pq_q_s hq hb4
    have ⟨k1, k2, k3⟩ := pq_k_s hk hb4
    have hE2 := pq_ee_s hc hq hb4 hE
    have he := pq_e_lt hc hb4
    refine br_f (nI_ge (b := 4) (by omega) (by decide)) (px_be hb4 (px_bl rfl (by omega) ⟨pk_in b 8 (by omega) (pq_0i b), ⟨by decide, ?_⟩⟩))
    rw [pq_0i, nI_clamp (by omega), h2 b (Nat.le_refl _), hq3, pq_pred hq2]
    refine px_ce (q := pq_q x_coefs b) (p := (3 * pq_k x_energies b + 2) / 4) rfl hq1 (by omega) hE (by omega) ?_
    refine px_search rfl hb4 hc hk ?_
    intro pu' g1 g2
    have ix : pq_id x_coefs x_pulseCounts b = pq_ix (fun j => pu' (8 * b + j)) 0 8 (pq_k x_pulseCounts b) := (pq_ix_ext 8 0 _ (fun j _ hj => g1 j (by omega))).symm
    have iM : pq_M (fun j => pu' (8 * b + j)) 0 8 = pq_k x_pulseCounts b := by
      rw [pq_M_ext 8 0 (fun j _ hj => g1 j (by omega))]
      exact pq_yv_M x_coefs b k2
    refine px_cp hb4 ht hk hE2 (by omega) ix iM ⟨vp_in_nI (by omega) (by decide), nm_r (e' := upd en b (nI (pq_q x_coefs b))) rfl (nm_r (nI_1 b) (ih (b + 1) _ pu' (by omega) ?_ ?_ ?_ ?_))⟩
    · intro j hj
      by_cases z : j = b
      · subst z; exact pk_us
      · rw [pk_un z]; exact h1 j (by omega)
    · intro j hj
      rw [pk_un (by omega)]
      exact h2 j (by omega)
    · intro c j hc2 hj
      by_cases z : c = b
      · subst z; exact g1 j hj
      · rw [g2 _ (by omega)]; exact h3 c j (by omega) hj
    · intro i hi
      rw [g2 i (by omega)]
      exact h4 i (by omega)
theorem px_encode {post : Int32 → St2 → Prop} (hp : pq_B x_packet) (ht : pq_tb x_sizes) (hc : pq_HC x_coefs) (hk : pq_HK x_pulseCounts) (hq : pq_HQ x_energies)
    (K : ∀ en pu : Nat → Int32, (∀ j, j < 4 → en j = nI (pq_q x_coefs j)) → (∀ j, 4 ≤ j → en j = x_energies j) → (∀ c j, c < 4 → j < 8 → pu (8 * c + j) = pq_yv x_coefs c (pq_k x_pulseCounts c) j) → (∀ i, 32 ≤ i → pu i = x_pulses i) →
      post (nI (pq_fl 5 (pq_eb (pq_clr x_packet 64) x_coefs x_pulseCounts x_energies 4)).2.2.2.2.1) (nI ((pq_fl 5 (pq_eb (pq_clr x_packet 64) x_coefs x_pulseCounts x_energies 4))).2.2.2.2.1, lN ((pq_fl 5 (pq_eb (pq_clr x_packet 64) x_coefs x_pulseCounts x_energies 4))).1, lN ((pq_fl 5 (pq_eb (pq_clr x_packet 64) x_coefs x_pulseCounts x_energies 4))).2.1, nI ((pq_fl 5 (pq_eb (pq_clr x_packet 64) x_coefs x_pulseCounts x_energies 4))).2.2.1, nI ((pq_fl 5 (pq_eb (pq_clr x_packet 64) x_coefs x_pulseCounts x_energies 4))).2.2.2.1, x_readPosition, x_decoderRange, x_code, x_decoderStep, x_pulseCounts, x_coefs, en, pu, x_decoded, x_vec, x_sizes, ((pq_fl 5 (pq_eb (pq_clr x_packet 64) x_coefs x_pulseCounts x_energies 4))).2.2.2.2.2)) : wpX_encodeFrame post (x_length, x_low, x_encoderRange, x_cache, x_pending, x_readPosition, x_decoderRange, x_code, x_decoderStep, x_pulseCounts, x_coefs, x_energies, x_pulses, x_decoded, x_vec, x_sizes, x_packet) := by
  unfold wpX_encodeFrame
  dsimp only
  refine px_se (co := x_coefs) (pc := x_pulseCounts) (eq := x_energies) ⟨5, ?_⟩
  exact px_6 (pq_clr_B hp 64) ht hc hk hq K 4 0 x_energies x_pulses (by omega) (fun j h => absurd h (Nat.not_lt_zero j)) (fun _ _ => rfl) (fun c _ h => absurd h (Nat.not_lt_zero c)) (fun _ _ => rfl)
end PQA
