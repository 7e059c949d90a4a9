/-! the vectors and the frames -/
theorem pq_M_S (a : Nat → Int32) : ∀ n i, pq_S (fun j => pq_mg (a j)) (i + n) = pq_S (fun j => pq_mg (a j)) i + pq_M a i n := by
  intro n
  induction n with
  | zero => intro i; rfl
  | succ n ih =>
    intro i
    have h := ih (i + 1)
    rw [show i + (n + 1) = i + 1 + n by omega, h]
    show pq_S (fun j => pq_mg (a j)) i + pq_mg (a i) + pq_M a (i + 1) n = pq_S (fun j => pq_mg (a j)) i + (pq_mg (a i) + pq_M a (i + 1) n)
    omega
theorem pq_M_0 (a : Nat → Int32) (n : Nat) : pq_M a 0 n = pq_S (fun j => pq_mg (a j)) n := by
  have h := pq_M_S a n 0
  rw [Nat.zero_add] at h
  rw [h]
  exact (Nat.zero_add _).symm
theorem pq_32 {f g : Nat → Int32} (h : ∀ c j, c < 4 → j < 8 → f (8 * c + j) = g (8 * c + j)) : ∀ i, i < 32 → f i = g i := by
  intro i hi
  have := h (i / 8) (i % 8) (by omega) (by omega)
  rw [Nat.div_add_mod] at this
  exact this
def pq_vi (a : Nat → Int32) (n : Nat) : Int32 := if pq_M a 0 n ≤ 16 then nI (pq_ix a 0 n (pq_M a 0 n)) else -1000000
theorem pq_qf_ext {dq dq' pk : Nat → Int32} {le : Nat} {pc : Nat → Int32} {b : Nat} (h : dq b = dq' b) : pq_qf dq pk le pc b = pq_qf dq' pk le pc b := by
  unfold pq_qf
  rw [h]
theorem pq_qn_ext {dq dq' pk : Nat → Int32} {le : Nat} {pc : Nat → Int32} {b : Nat} (h : dq b = dq' b) : pq_qn dq pk le pc b = pq_qn dq' pk le pc b := by
  unfold pq_qn
  rw [pq_qf_ext h]
section PQV
variable {x_length x_cache x_pending x_readPosition : Int32} {x_low x_encoderRange x_decoderRange x_code x_decoderStep : Int64} {x_pulseCounts x_coefs x_energies x_pulses x_decoded x_vec x_sizes x_packet : Nat → Int32}
variable {le : Nat} {pc co pk : Nat → Int32}
theorem px_vi18 {post : Int32 → Prop} {n : Nat} (hn : n ≤ 8) (ht : pq_tb x_sizes) (hv : ∀ i, i < 8 → pq_mg (x_vec i) ≤ 16) (h : post (pq_vi x_vec n)) : ∀ d i, i + d = n → wX_vecIndex_18 post (nI n) x_length x_low x_encoderRange x_cache x_pending x_readPosition x_decoderRange x_code x_decoderStep x_pulseCounts x_coefs x_energies x_pulses x_decoded x_vec x_sizes x_packet (d + 1) (nI (pq_S (fun j => pq_mg (x_vec j)) i)) (nI i) := by
  have hS : ∀ i, i ≤ n → pq_S (fun j => pq_mg (x_vec j)) i ≤ i * 16 := fun i hi => pq_S_le _ _ i (fun j hj => hv j (by omega))
  intro d
  induction d with
  | zero =>
    intro i hi
    have e : i = n := by omega
    subst e
    have hM := pq_M_0 x_vec i
    have hb := hS i (Nat.le_refl _)
    rw [← hM] at hb ⊢
    unfold pq_vi at h
    refine br_t (nI_le (Nat.le_refl _) (by omega)) ?_
    by_cases c : pq_M x_vec 0 i ≤ 16
    · rw [if_pos c] at h
      refine br_t (nI_le (b := 16) c (by decide)) (px_vecix (fr := 0) (n := i) (k := pq_M x_vec 0 i) ht hn (by omega) c ?_ rfl rfl rfl ?_)
      · exact pq_M_ext i 0 (fun j _ _ => by rw [Nat.zero_add])
      · rw [pq_ix_ext (a := fun j => x_vec (0 + j)) (c := x_vec) i 0 _ (fun j _ _ => by rw [Nat.zero_add])]
        exact h
    · rw [if_neg c] at h
      exact br_f (nI_ge (b := pq_M x_vec 0 i) (a := 16) (by omega) (by omega)) h
  | succ d ih =>
    intro i hi
    have hb := hS i (by omega)
    refine br_f (nI_ge (by omega) (by omega)) ⟨vp_in_nI (by omega) (by decide), ?_⟩
    rw [nI_clamp (by omega)]
    exact px_mag (nm_r (nI_add _ _) (nm_r (nI_1 i) (ih (i + 1) (by omega))))
theorem pq_vi_ext {a c : Nat → Int32} {n : Nat} (h : ∀ i, i < n → a i = c i) : pq_vi a n = pq_vi c n := by
  have e := pq_M_ext (a := a) (c := c) n 0 (fun j _ hj => h j (by omega))
  unfold pq_vi
  rw [e, pq_ix_ext (a := a) (c := c) n 0 _ (fun j _ hj => h j (by omega))]
theorem px_vu56 {post : Int32 → St2 → Prop} {n : Nat} {Y : Nat → Int32} (hn : n ≤ 8) (K : ∀ w : Nat → Int32, (∀ t, t < n → w t = Y t) → (∀ t, n ≤ t → t < 8 → w t = 0) → post 1 (x_length, x_low, x_encoderRange, x_cache, x_pending, x_readPosition, x_decoderRange, x_code, x_decoderStep, x_pulseCounts, x_coefs, x_energies, x_pulses, x_decoded, w, x_sizes, x_packet)) : ∀ d i (w : Nat → Int32), i + d = 8 → n ≤ i → (∀ t, t < n → w t = Y t) → (∀ t, n ≤ t → t < i → w t = 0) → wX_vecUnindex_56 post x_length x_low x_encoderRange x_cache x_pending x_readPosition x_decoderRange x_code x_decoderStep (d + 1) (nI i) x_pulseCounts x_coefs x_energies x_pulses x_decoded w x_sizes x_packet := by
  intro d
  induction d with
  | zero =>
    intro i w hi hi2 h1 h2
    have e : i = 8 := by omega
    subst e
    exact br_t (nI_le (a := 8) (Nat.le_refl _) (by decide)) (K w h1 h2)
  | succ d ih =>
    intro i w hi hi2 h1 h2
    refine br_f (nI_ge (b := 8) (by omega) (by decide)) ⟨vp_in_nI (by omega) (by decide), nm_r (e' := upd w i 0) (by rw [nI_clamp (by omega)]) (nm_r (nI_1 i) (ih (i + 1) _ (by omega) (by omega) ?_ ?_))⟩
    · intro t ht
      rw [pk_un (by omega)]
      exact h1 t ht
    · intro t ht1 ht2
      by_cases z : t = i
      · subst z; exact pk_us
      · rw [pk_un z]; exact h2 t ht1 (by omega)
end PQV
