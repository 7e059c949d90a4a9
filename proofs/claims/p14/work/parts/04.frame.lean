/-! the search of the pulses -/
def pq_bs (a : Nat → Int64) (w : Nat → Nat) (cc ss : Int64) : Nat → Nat × Int64 × Int64
  | 0 => (0, 0, 1)
  | j + 1 => if j = 0 ∨ (pq_bs a w cc ss j).2.1 * (ss + (2 * nI (w j)).toInt64 + 1) < (cc + a j) * (cc + a j) * (pq_bs a w cc ss j).2.2 then (j, (cc + a j) * (cc + a j), ss + (2 * nI (w j)).toInt64 + 1) else pq_bs a w cc ss j
theorem pq_bs_lt (a : Nat → Int64) (w : Nat → Nat) (cc ss : Int64) : ∀ j, j ≤ 8 → (pq_bs a w cc ss j).1 < 8 := by
  intro j
  induction j with
  | zero => intro _; exact (by decide : 0 < 8)
  | succ j ih =>
    intro h
    unfold pq_bs
    split
    · show j < 8; omega
    · exact ih (by omega)
def pq_up (w : Nat → Nat) (c : Nat) : Nat → Nat := fun j => if j = c then w j + 1 else w j
theorem pq_up_o {w : Nat → Nat} {c : Nat} : ∀ n, n ≤ c → pq_S (pq_up w c) n = pq_S w n := by
  intro n h
  apply pq_S_ext
  intro j hj
  exact if_neg (by omega)
theorem pq_up_s {w : Nat → Nat} {c : Nat} : ∀ n, c < n → pq_S (pq_up w c) n = pq_S w n + 1 := by
  intro n
  induction n with
  | zero => intro h; omega
  | succ n ih =>
    intro h
    show pq_S (pq_up w c) n + pq_up w c n = pq_S w n + w n + 1
    by_cases e : n = c
    · rw [pq_up_o n (by omega)]
      have : pq_up w c n = w n + 1 := if_pos e
      omega
    · rw [ih (by omega)]
      have : pq_up w c n = w n := if_neg e
      omega
def pq_sr (a : Nat → Int64) : Nat → (Nat → Nat) × Int64 × Int64
  | 0 => (fun _ => 0, 0, 0)
  | i + 1 => (pq_up (pq_sr a i).1 (pq_bs a (pq_sr a i).1 (pq_sr a i).2.1 (pq_sr a i).2.2 8).1, (pq_sr a i).2.1 + a (pq_bs a (pq_sr a i).1 (pq_sr a i).2.1 (pq_sr a i).2.2 8).1, (pq_sr a i).2.2 + (2 * nI ((pq_sr a i).1 (pq_bs a (pq_sr a i).1 (pq_sr a i).2.1 (pq_sr a i).2.2 8).1) + 1).toInt64)
theorem pq_sr_sum (a : Nat → Int64) : ∀ i, pq_S (pq_sr a i).1 8 = i := by
  intro i
  induction i with
  | zero => rfl
  | succ i ih =>
    show pq_S (pq_up (pq_sr a i).1 _) 8 = i + 1
    rw [pq_up_s 8 (pq_bs_lt _ _ _ _ 8 (by omega)), ih]
theorem pq_sr_le (a : Nat → Int64) (i : Nat) {j : Nat} (hj : j < 8) : (pq_sr a i).1 j ≤ i := by
  have h := pq_S_ge (pq_sr a i).1 hj
  rw [pq_sr_sum] at h
  exact h
def pq_ab (co : Nat → Int32) (b j : Nat) : Int64 := lN (pq_mg (co (8 * b + j)))
def pq_w (co : Nat → Int32) (b k : Nat) : Nat → Nat := (pq_sr (pq_ab co b) k).1
def pq_yv (co : Nat → Int32) (b k j : Nat) : Int32 := if co (8 * b + j) < 0 then -nI (pq_w co b k j) else nI (pq_w co b k j)
theorem pq_yv_mg (co : Nat → Int32) (b : Nat) {k j : Nat} (hk : k ≤ 16) (hj : j < 8) : pq_mg (pq_yv co b k j) = pq_w co b k j := by
  have h : pq_w co b k j ≤ k := pq_sr_le _ _ hj
  unfold pq_yv
  split
  · exact pq_mg_neg (by omega)
  · exact pq_mg_nI (by omega)
theorem pq_M_8 (a : Nat → Int32) : pq_M a 0 8 = pq_S (fun j => pq_mg (a j)) 8 := by
  simp only [pq_M, pq_S, Nat.zero_add, Nat.reduceAdd]
  omega
theorem pq_yv_M (co : Nat → Int32) (b : Nat) {k : Nat} (hk : k ≤ 16) : pq_M (pq_yv co b k) 0 8 = k := by
  rw [pq_M_8, pq_S_ext (g := pq_w co b k) 8 (fun j hj => pq_yv_mg co b hk hj)]
  exact pq_sr_sum _ k
/-! the state's ranges -/
def pq_HK (pc : Nat → Int32) : Prop := ∀ b, b < 4 → ∃ k, 1 ≤ k ∧ k ≤ 16 ∧ pc b = nI k
def pq_HC (co : Nat → Int32) : Prop := ∀ j, j < 32 → pq_mg (co j) ≤ 32767
def pq_HQ (q : Nat → Int32) : Prop := ∀ b, b < 4 → ∃ x, x ≤ 33 ∧ q b = nI x
def pq_k (pc : Nat → Int32) (b : Nat) : Nat := (pc b).toNatClampNeg
theorem pq_k_s {pc : Nat → Int32} (h : pq_HK pc) {b : Nat} (hb : b < 4) : 1 ≤ pq_k pc b ∧ pq_k pc b ≤ 16 ∧ pc b = nI (pq_k pc b) := by
  obtain ⟨k, h1, h2, e⟩ := h b hb
  unfold pq_k
  rw [e, nI_clamp (by omega)]
  exact ⟨h1, h2, rfl⟩
theorem pq_q_s {q : Nat → Int32} (h : pq_HQ q) {b : Nat} (hb : b < 4) : pq_k q b ≤ 33 ∧ q b = nI (pq_k q b) := by
  obtain ⟨k, h2, e⟩ := h b hb
  unfold pq_k
  rw [e, nI_clamp (by omega)]
  exact ⟨h2, rfl⟩
def pq_e (co : Nat → Int32) (b : Nat) : Nat := pq_S (fun j => pq_mg (co (8 * b + j)) * pq_mg (co (8 * b + j))) 8
theorem pq_e_lt {co : Nat → Int32} (h : pq_HC co) {b : Nat} (hb : b < 4) : pq_e co b < 8589934592 := by
  have h1 : pq_e co b ≤ 8 * (32767 * 32767) := by
    apply pq_S_le
    intro j hj
    have h2 := h (8 * b + j) (by omega)
    exact Nat.mul_le_mul h2 h2
  omega
def pq_q (co : Nat → Int32) (b : Nat) : Nat := pq_bl (pq_e co b)
theorem pq_q_le {co : Nat → Int32} (h : pq_HC co) {b : Nat} (hb : b < 4) : pq_q co b ≤ 33 := pq_bl_b (pq_e_lt h hb)
def pq_id (co pc : Nat → Int32) (b : Nat) : Nat := pq_ix (pq_yv co b (pq_k pc b)) 0 8 (pq_k pc b)
theorem pq_id_lt (co : Nat → Int32) {pc : Nat → Int32} (h : pq_HK pc) {b : Nat} (hb : b < 4) : pq_id co pc b < pq_V 8 (pq_k pc b) := by
  have ⟨_, k2, _⟩ := pq_k_s h hb
  exact pq_ix_lt _ 8 0 _ (by omega) k2 (pq_yv_M co b k2)
/-! a frame -/
def pq_sb (co eq : Nat → Int32) (b : Nat) : Nat := pq_sm (pq_q co b) ((3 * pq_k eq b + 2) / 4)
theorem pq_sb_le {co eq : Nat → Int32} (hc : pq_HC co) (hq : pq_HQ eq) {b : Nat} (hb : b < 4) : pq_sb co eq b < 67 := by
  have h1 := pq_q_le hc hb
  have ⟨h2, _⟩ := pq_q_s hq hb
  exact pq_sm_le h1 (by omega)
def pq_ee (co eq : Nat → Int32) (b : Nat) (e : pq_E) : pq_E := pq_cd e (pq_st (pq_sb co eq b)) (pq_f (pq_sb co eq b)) 150
def pq_eb (pk co pc eq : Nat → Int32) : Nat → pq_E
  | 0 => (0, 4294967295, 0, 1, 0, pk)
  | b + 1 => pq_cp (pq_ee co eq b (pq_eb pk co pc eq b)) (pq_k pc b) (pq_id co pc b)
theorem pq_ee_s {co eq : Nat → Int32} (hc : pq_HC co) (hq : pq_HQ eq) {b : Nat} (hb : b < 4) {B : Nat} {e : pq_E} (h : pq_EI B e) : pq_EI (B + 2) (pq_ee co eq b e) := by
  have h1 := pq_sb_le hc hq hb
  have ⟨a1, a2, _⟩ := pq_f_s _ h1
  exact pq_cd_s h (by omega) (by omega) a2 a1
theorem pq_eb_s {pk co pc eq : Nat → Int32} (hp : pq_B pk) (hc : pq_HC co) (hk : pq_HK pc) (hq : pq_HQ eq) : ∀ b, b ≤ 4 → pq_EI (1 + 6 * b) (pq_eb pk co pc eq b) := by
  intro b
  induction b with
  | zero => intro _; exact ⟨⟨(by decide : 0 < 256), (by decide : 1 ≤ 1 + 6 * 0), (by decide : 0 ≤ 64), hp⟩, (by decide : 0 + 4294967295 ≤ 8589934592), (by decide : 16777216 ≤ 4294967295), (by decide : 4294967295 < 4294967296)⟩
  | succ b ih =>
    intro hb
    have h1 := pq_ee_s hc hq (b := b) (by omega) (ih (by omega))
    have ⟨_, k2, _⟩ := pq_k_s hk (b := b) (by omega)
    exact pq_EI_le (pq_cp_s h1 k2 (pq_id_lt co hk (by omega))) (by omega)
def pq_clr (pk : Nat → Int32) : Nat → (Nat → Int32)
  | 0 => pk
  | i + 1 => upd (pq_clr pk i) i 0
theorem pq_clr_B {pk : Nat → Int32} (h : pq_B pk) : ∀ i, pq_B (pq_clr pk i) := by
  intro i
  induction i with
  | zero => exact h
  | succ i ih => exact pq_B_u ih (b := 0) (by decide)
def pq_fl : Nat → pq_E → pq_E
  | 0, e => e
  | i + 1, e => pq_fl i (pq_sh e)
theorem pq_fl_w : ∀ i (e : pq_E) (B : Nat), pq_EW B e → pq_EW (B + i) (pq_fl i e) := by
  intro i
  induction i with
  | zero => intro e B h; exact h
  | succ i ih =>
    intro e B h
    have := ih (pq_sh e) (B + 1) (pq_sh_w h)
    exact pq_EW_le this (by omega)
/-! a frame back -/
def pq_ds (d : pq_D) : Nat := pq_sy (pq_dv d 150)
def pq_de (pk : Nat → Int32) (le : Nat) (d : pq_D) : pq_D := pq_dc pk le d 150 (pq_st (pq_ds d)) (pq_f (pq_ds d))
def pq_d5 (pk : Nat → Int32) (le : Nat) : Nat → pq_D
  | 0 => (0, 4294967295, 0)
  | i + 1 => pq_tk pk le (pq_d5 pk le i)
def pq_db (pk : Nat → Int32) (le : Nat) (pc : Nat → Int32) : Nat → pq_D
  | 0 => pq_d5 pk le 5
  | b + 1 => (pq_dp pk le (pq_de pk le (pq_db pk le pc b)) (pq_k pc b)).2
def pq_xi (pk : Nat → Int32) (le : Nat) (pc : Nat → Int32) (b : Nat) : Nat := (pq_dp pk le (pq_de pk le (pq_db pk le pc b)) (pq_k pc b)).1
theorem pq_ds_s (d : pq_D) : pq_st (pq_ds d) ≤ pq_dv d 150 ∧ pq_dv d 150 < pq_st (pq_ds d + 1) ∧ pq_ds d ≤ 66 := pq_sy_s (pq_dv_lt (by decide))
theorem pq_de_s (pk : Nat → Int32) (le : Nat) {B : Nat} {d : pq_D} (h : pq_DI B d) : pq_DI (B + 2) (pq_de pk le d) := by
  have ⟨_, _, h1⟩ := pq_ds_s d
  have ⟨a1, a2, _⟩ := pq_f_s _ (show pq_ds d < 67 by omega)
  exact pq_dc_s pk le h (by omega) (by omega) a2 (by omega)
theorem pq_d5_s (pk : Nat → Int32) (le : Nat) : ∀ i, (pq_d5 pk le i).1 = i ∧ (pq_d5 pk le i).2.1 = 4294967295 ∧ (pq_d5 pk le i).2.2 < 4294967296 := by
  intro i
  induction i with
  | zero => exact ⟨rfl, rfl, (by decide : 0 < 4294967296)⟩
  | succ i ih => exact ⟨congrArg (· + 1) ih.1, ih.2.1, Nat.mod_lt _ (by decide)⟩
theorem pq_db_s (pk : Nat → Int32) (le : Nat) {pc : Nat → Int32} (hk : pq_HK pc) : ∀ b, b ≤ 4 → pq_DI (5 + 6 * b) (pq_db pk le pc b) := by
  intro b
  induction b with
  | zero =>
    intro _
    have ⟨a, c, d⟩ := pq_d5_s pk le 5
    show pq_DI _ (pq_d5 pk le 5)
    exact ⟨by omega, by omega, by omega, d⟩
  | succ b ih =>
    intro hb
    have ⟨_, k2, _⟩ := pq_k_s hk (b := b) (by omega)
    exact pq_DI_le (pq_dp_s pk le (pq_de_s pk le (ih (by omega))) k2).2 (by omega)
theorem pq_xi_lt (pk : Nat → Int32) (le : Nat) {pc : Nat → Int32} (hk : pq_HK pc) {b : Nat} (hb : b < 4) : pq_xi pk le pc b < pq_V 8 (pq_k pc b) := by
  have ⟨_, k2, _⟩ := pq_k_s hk hb
  exact (pq_dp_s pk le (pq_de_s pk le (pq_db_s pk le hk b (by omega))) k2).1
def pq_cl (x lo hi : Int32) : Int32 := if x < lo then lo else if hi < x then hi else x
theorem pq_cl_s (x : Int32) : ∃ q, q ≤ 33 ∧ pq_cl x 0 33 = nI q := by
  unfold pq_cl
  by_cases a : x < 0
  · rw [if_pos a]; exact ⟨0, by decide, rfl⟩
  · rw [if_neg a]
    by_cases b : 33 < x
    · rw [if_pos b]; exact ⟨33, by decide, rfl⟩
    · rw [if_neg b]
      obtain ⟨j, hj, e⟩ := nI_of2 (M := 33) (n := 33) (by decide) a (Int32.not_lt.mp b)
      exact ⟨j, hj, e⟩
theorem pq_cl_1 (x : Int32) : ∃ k, 1 ≤ k ∧ k ≤ 16 ∧ pq_cl x 1 16 = nI k := by
  unfold pq_cl
  by_cases a : x < 1
  · rw [if_pos a]; exact ⟨1, by decide, by decide, rfl⟩
  · rw [if_neg a]
    by_cases b : 16 < x
    · rw [if_pos b]; exact ⟨16, by decide, by decide, rfl⟩
    · rw [if_neg b]
      have a0 : ¬ x < 0 := fun z => a (Int32.lt_trans z (by decide))
      obtain ⟨j, hj, e⟩ := nI_of2 (M := 16) (n := 16) (by decide) a0 (Int32.not_lt.mp b)
      refine ⟨j, ?_, hj, e⟩
      by_cases z : j = 0
      · subst z; subst e; exact absurd (by decide) a
      · omega
theorem pq_cl_m (x : Int32) {c : Nat} {C : Int32} (hc : c < 2 ^ 31) (hC : C = nI c) : pq_mg (pq_cl x (-C) C) ≤ c := by
  subst hC
  have e : (-nI c).toInt = -(c : Int) := sb_negT hc
  have e2 : (nI c).toInt = (c : Int) := nI_toInt hc
  unfold pq_cl
  by_cases a : x < -nI c
  · rw [if_pos a, pq_mg_neg hc]; exact Nat.le_refl _
  · rw [if_neg a]
    by_cases b : nI c < x
    · rw [if_pos b, pq_mg_nI hc]; exact Nat.le_refl _
    · rw [if_neg b]
      rw [Int32.lt_iff_toInt_lt] at a b
      unfold pq_mg
      omega
def pq_z (n k r : Nat) : Nat := pq_S (fun j => pq_mg (pq_y n k r j) * pq_mg (pq_y n k r j)) 8
def pq_sc (y : Int32) (q sq : Nat) : Int32 :=
  if q = 0 ∨ y = 0 then 0 else if y < 0 then -nI (pq_rt (2 ^ (q - 1) * (pq_mg y * pq_mg y) / sq)) else nI (pq_rt (2 ^ (q - 1) * (pq_mg y * pq_mg y) / sq))
