/-! magnitudes -/
def pq_mg (x : Int32) : Nat := x.toInt.natAbs
theorem pq_mg_nI {m : Nat} (h : m < 2 ^ 31) : pq_mg (nI m) = m := by
  rw [pq_mg, nI_toInt h, Int.natAbs_natCast]
theorem pq_mg_neg {m : Nat} (h : m < 2 ^ 31) : pq_mg (-nI m) = m := by
  rw [pq_mg, sb_negT h, Int.natAbs_neg, Int.natAbs_natCast]
theorem pq_mg_p {x : Int32} (h : ¬ x < 0) : x = nI (pq_mg x) := by
  obtain ⟨j, hj, rfl⟩ := nI_of h
  rw [pq_mg_nI hj]
theorem pq_z32 : (0 : Int32).toInt = 0 := by decide
theorem pq_z64 : (0 : Int64).toInt = 0 := by decide
theorem pq_tneg {x : Int32} (h : x < 0) : x.toInt < 0 := by
  have h2 := Int32.lt_iff_toInt_lt.mp h
  rw [pq_z32] at h2
  exact h2
theorem pq_mg_e {x : Int32} (h : x < 0) : x.toInt = -((pq_mg x : Nat) : Int) := by
  have h1 := pq_tneg h
  unfold pq_mg
  omega
theorem pq_mg_n {x : Int32} (h : x < 0) : -x = nI (pq_mg x) := by
  have h2 := pq_mg_e h
  have h3 : x = Int32.ofInt (-((pq_mg x : Nat) : Int)) := by rw [← h2, Int32.ofInt_toInt]
  have h4 : -x = - Int32.ofInt (-((pq_mg x : Nat) : Int)) := congrArg Neg.neg h3
  rw [h4, Int32.neg_ofInt, Int.neg_neg, Int32.ofInt_eq_ofNat]
  rfl
theorem pq_mg_1 {x : Int32} (h : x < 0) : 1 ≤ pq_mg x := by
  have h1 := pq_tneg h
  unfold pq_mg
  omega
theorem pq_neg_lt {m : Nat} (h0 : 0 < m) (h : m < 2 ^ 31) : -nI m < 0 := by
  rw [Int32.lt_iff_toInt_lt, sb_negT h, pq_z32]
  omega
theorem pq_mgL (x : Int32) : x.toInt64 * x.toInt64 = lN (pq_mg x * pq_mg x) := by
  rw [← Int64.ofInt_int32ToInt, ← Int64.ofInt_mul, ← Int.natAbs_mul_self, Int64.ofInt_eq_ofNat]
  rfl
theorem pq_L_lt {x : Int32} : x.toInt64 < 0 ↔ x < 0 := by
  rw [Int64.lt_iff_toInt_lt, Int32.lt_iff_toInt_lt, Int32.toInt_toInt64, pq_z32, pq_z64]
theorem pq_L_n {x : Int32} (h : x < 0) : -x.toInt64 = lN (pq_mg x) := by
  have h2 := pq_mg_e h
  have h3 : -x.toInt = ((pq_mg x : Nat) : Int) := by omega
  rw [← Int64.ofInt_int32ToInt, Int64.neg_ofInt, h3, Int64.ofInt_eq_ofNat]
  rfl
theorem pq_L_p {x : Int32} (h : ¬ x < 0) : x.toInt64 = lN (pq_mg x) := by
  obtain ⟨j, hj, rfl⟩ := nI_of h
  rw [pq_mg_nI hj, nI_l hj]
theorem pq_mg_l {x : Int32} (h : pq_mg x < 2 ^ 31) : (nI (pq_mg x)).toInt64 = lN (pq_mg x) := nI_l h
/-! sums, and the largest place below a value -/
def pq_S (f : Nat → Nat) : Nat → Nat
  | 0 => 0
  | k + 1 => pq_S f k + f k
theorem pq_S_mono (f : Nat → Nat) {a : Nat} : ∀ {b : Nat}, a ≤ b → pq_S f a ≤ pq_S f b := by
  intro b
  induction b with
  | zero => intro h; rw [Nat.le_zero.mp h]; exact Nat.le_refl _
  | succ b ih =>
    intro h
    by_cases e : a = b + 1
    · subst e; exact Nat.le_refl _
    · have h1 := ih (by omega)
      show pq_S f a ≤ pq_S f b + f b
      omega
theorem pq_S_le (f : Nat → Nat) (c : Nat) : ∀ n, (∀ j, j < n → f j ≤ c) → pq_S f n ≤ n * c := by
  intro n
  induction n with
  | zero => intro _; exact Nat.zero_le _
  | succ n ih =>
    intro h
    have h1 := ih (fun j hj => h j (by omega))
    have h2 := h n (by omega)
    show pq_S f n + f n ≤ (n + 1) * c
    rw [Nat.add_mul, Nat.one_mul]
    omega
theorem pq_S_ge (f : Nat → Nat) {n : Nat} : ∀ {j : Nat}, j < n → f j ≤ pq_S f n := by
  induction n with
  | zero => intro j h; omega
  | succ n ih =>
    intro j h
    show f j ≤ pq_S f n + f n
    by_cases e : j = n
    · subst e; omega
    · have := ih (j := j) (by omega); omega
theorem pq_S_ext {f g : Nat → Nat} : ∀ n, (∀ j, j < n → f j = g j) → pq_S f n = pq_S g n := by
  intro n
  induction n with
  | zero => intro _; rfl
  | succ n ih =>
    intro h
    show pq_S f n + f n = pq_S g n + g n
    rw [ih (fun j hj => h j (by omega)), h n (by omega)]
def pq_lg (g : Nat → Nat) (r : Nat) : Nat → Nat
  | 0 => 0
  | K + 1 => if g (K + 1) ≤ r then K + 1 else pq_lg g r K
theorem pq_lg_s (g : Nat → Nat) (r : Nat) (h0 : g 0 ≤ r) : ∀ K, r < g (K + 1) → g (pq_lg g r K) ≤ r ∧ r < g (pq_lg g r K + 1) ∧ pq_lg g r K ≤ K := by
  intro K
  induction K with
  | zero => intro h; exact ⟨h0, h, Nat.le_refl _⟩
  | succ K ih =>
    intro h
    unfold pq_lg
    by_cases c : g (K + 1) ≤ r
    · rw [if_pos c]; exact ⟨c, h, Nat.le_refl _⟩
    · rw [if_neg c]
      have ⟨a, b, d⟩ := ih (by omega)
      exact ⟨a, b, by omega⟩
/-! the pyramid -/
def pq_T : List Nat := [1, 0, 0, 0, 0, 0, 0, 0, 0, 0, 0, 0, 0, 0, 0, 0, 0, 1, 2, 2, 2, 2, 2, 2, 2, 2, 2, 2, 2, 2, 2, 2, 2, 2, 1, 4, 8, 12, 16, 20, 24, 28, 32, 36, 40, 44, 48, 52, 56, 60, 64, 1, 6, 18, 38, 66, 102, 146, 198, 258, 326, 402, 486, 578, 678, 786, 902, 1026, 1, 8, 32, 88, 192, 360, 608, 952, 1408, 1992, 2720, 3608, 4672, 5928, 7392, 9080, 11008, 1, 10, 50, 170, 450, 1002, 1970, 3530, 5890, 9290, 14002, 20330, 28610, 39210, 52530, 69002, 89090, 1, 12, 72, 292, 912, 2364, 5336, 10836, 20256, 35436, 58728, 93060, 142000, 209820, 301560, 423092, 581184, 1, 14, 98, 462, 1666, 4942, 12642, 28814, 59906, 115598, 209762, 361550, 596610, 948430, 1459810, 2184462, 3188738, 1, 16, 128, 688, 2816, 9424, 27008, 68464, 157184, 332688, 658048, 1229360, 2187520, 3732560, 6140800, 9785072, 15158272]
def pq_t (j : Nat) : Nat := pq_T.getD j 0
def pq_V (n k : Nat) : Nat := pq_t (n * 17 + k)
theorem pq_row : ∀ n, n < 8 → ∀ k, k < 17 → pq_V (n + 1) k = pq_V n k + 2 * pq_S (pq_V n) k := by decide +kernel
theorem pq_tle0 : ∀ j, j < 153 → pq_t j ≤ 15158272 := by decide +kernel
theorem pq_Vle {n k : Nat} (hn : n ≤ 8) (hk : k ≤ 16) : pq_V n k ≤ 15158272 := pq_tle0 _ (by omega)
theorem pq_Vpos : ∀ k, k < 17 → 1 ≤ pq_V 8 k := by decide +kernel
def pq_W (n k : Nat) : Nat → Nat
  | 0 => 0
  | m + 1 => pq_W n k m + (if m = 0 then 1 else 2) * pq_V n (k - m)
theorem pq_full : ∀ n, n < 8 → ∀ k, k < 17 → pq_W n k (k + 1) = pq_V (n + 1) k := by decide +kernel
theorem pq_W_mono (n k : Nat) {a : Nat} : ∀ {b : Nat}, a ≤ b → pq_W n k a ≤ pq_W n k b := by
  intro b
  induction b with
  | zero => intro h; rw [Nat.le_zero.mp h]; exact Nat.le_refl _
  | succ b ih =>
    intro h
    by_cases e : a = b + 1
    · subst e; exact Nat.le_refl _
    · have h1 := ih (by omega)
      show pq_W n k a ≤ pq_W n k b + _
      omega
def pq_ix (a : Nat → Int32) : Nat → Nat → Nat → Nat
  | _, 0, _ => 0
  | i, n + 1, k => pq_W n k (pq_mg (a i)) + (if a i < 0 then pq_V n (k - pq_mg (a i)) else 0) + pq_ix a (i + 1) n (k - pq_mg (a i))
def pq_M (a : Nat → Int32) : Nat → Nat → Nat
  | _, 0 => 0
  | i, n + 1 => pq_mg (a i) + pq_M a (i + 1) n
theorem pq_ix_lt (a : Nat → Int32) : ∀ n i k, n ≤ 8 → k ≤ 16 → pq_M a i n = k → pq_ix a i n k < pq_V n k := by
  intro n
  induction n with
  | zero =>
    intro i k _ _ h
    have h2 : k = 0 := h.symm
    subst h2
    show 0 < pq_V 0 0
    decide +kernel
  | succ n ih =>
    intro i k hn hk h
    have h2 : pq_mg (a i) + pq_M a (i + 1) n = k := h
    have h3 := ih (i + 1) (k - pq_mg (a i)) (by omega) (by omega) (by omega)
    have h4 := pq_full n (by omega) k (by omega)
    have h5 : pq_W n k (pq_mg (a i) + 1) ≤ pq_W n k (k + 1) := pq_W_mono n k (by omega)
    have h6 : pq_W n k (pq_mg (a i) + 1) = pq_W n k (pq_mg (a i)) + (if pq_mg (a i) = 0 then 1 else 2) * pq_V n (k - pq_mg (a i)) := rfl
    show pq_W n k (pq_mg (a i)) + (if a i < 0 then pq_V n (k - pq_mg (a i)) else 0) + pq_ix a (i + 1) n (k - pq_mg (a i)) < pq_V (n + 1) k
    by_cases c : a i < 0
    · have h7 := pq_mg_1 c
      rw [if_pos c]
      rw [if_neg (by omega)] at h6
      omega
    · rw [if_neg c]
      by_cases z : pq_mg (a i) = 0
      · rw [if_pos z] at h6; omega
      · rw [if_neg z] at h6; omega
/-! taking an index apart: n is the number of the cells behind -/
def pq_fm (n k r : Nat) : Nat := pq_lg (pq_W n k) r k
abbrev pq_ng (n k r : Nat) : Prop := 0 < pq_fm n k r ∧ pq_V n (k - pq_fm n k r) ≤ r - pq_W n k (pq_fm n k r)
def pq_uy (n k r : Nat) : Int32 := if pq_ng n k r then -nI (pq_fm n k r) else nI (pq_fm n k r)
def pq_ur (n k r : Nat) : Nat := if pq_ng n k r then r - pq_W n k (pq_fm n k r) - pq_V n (k - pq_fm n k r) else r - pq_W n k (pq_fm n k r)
theorem pq_fm_s {n k r : Nat} (hn : n < 8) (hk : k ≤ 16) (hr : r < pq_V (n + 1) k) : pq_W n k (pq_fm n k r) ≤ r ∧ r < pq_W n k (pq_fm n k r + 1) ∧ pq_fm n k r ≤ k :=
  pq_lg_s (pq_W n k) r (Nat.zero_le _) k (by rw [pq_full n hn k (by omega)]; exact hr)
theorem pq_uy_n {n k r : Nat} (h : pq_ng n k r) : pq_uy n k r = -nI (pq_fm n k r) := by unfold pq_uy; exact if_pos h
theorem pq_uy_p {n k r : Nat} (h : ¬ pq_ng n k r) : pq_uy n k r = nI (pq_fm n k r) := by unfold pq_uy; exact if_neg h
theorem pq_ur_n {n k r : Nat} (h : pq_ng n k r) : pq_ur n k r = r - pq_W n k (pq_fm n k r) - pq_V n (k - pq_fm n k r) := by unfold pq_ur; exact if_pos h
theorem pq_ur_p {n k r : Nat} (h : ¬ pq_ng n k r) : pq_ur n k r = r - pq_W n k (pq_fm n k r) := by unfold pq_ur; exact if_neg h
theorem pq_ur_lt {n k r : Nat} (hn : n < 8) (hk : k ≤ 16) (hr : r < pq_V (n + 1) k) : pq_ur n k r < pq_V n (k - pq_fm n k r) := by
  have ⟨a, b, _⟩ := pq_fm_s hn hk hr
  have h6 : pq_W n k (pq_fm n k r + 1) = pq_W n k (pq_fm n k r) + (if pq_fm n k r = 0 then 1 else 2) * pq_V n (k - pq_fm n k r) := rfl
  by_cases c : pq_ng n k r
  · rw [pq_ur_n c]
    have ⟨c1, c2⟩ := c
    rw [if_neg (by omega)] at h6
    omega
  · rw [pq_ur_p c]
    by_cases z : pq_fm n k r = 0
    · rw [if_pos z] at h6; omega
    · rw [if_neg z] at h6
      have c2 : ¬ pq_V n (k - pq_fm n k r) ≤ r - pq_W n k (pq_fm n k r) := fun y => c ⟨by omega, y⟩
      omega
theorem pq_uy_mg {n k r : Nat} (hn : n < 8) (hk : k ≤ 16) (hr : r < pq_V (n + 1) k) : pq_mg (pq_uy n k r) = pq_fm n k r := by
  have ⟨_, _, d⟩ := pq_fm_s hn hk hr
  by_cases c : pq_ng n k r
  · rw [pq_uy_n c, pq_mg_neg (by omega)]
  · rw [pq_uy_p c, pq_mg_nI (by omega)]
def pq_us (n k r : Nat) : Nat → Nat × Nat
  | 0 => (k, r)
  | i + 1 => ((pq_us n k r i).1 - pq_fm (n - i - 1) (pq_us n k r i).1 (pq_us n k r i).2, pq_ur (n - i - 1) (pq_us n k r i).1 (pq_us n k r i).2)
def pq_y (n k r i : Nat) : Int32 := pq_uy (n - i - 1) (pq_us n k r i).1 (pq_us n k r i).2
theorem pq_us_s {n k r : Nat} (hn : n ≤ 8) (hk : k ≤ 16) (hr : r < pq_V n k) : ∀ i, i ≤ n → (pq_us n k r i).1 ≤ 16 ∧ (pq_us n k r i).2 < pq_V (n - i) (pq_us n k r i).1 := by
  intro i
  induction i with
  | zero => intro _; exact ⟨hk, hr⟩
  | succ i ih =>
    intro hi
    have ⟨a, b⟩ := ih (by omega)
    have e : n - i = (n - i - 1) + 1 := by omega
    rw [e] at b
    refine ⟨Nat.le_trans (Nat.sub_le _ _) a, ?_⟩
    exact pq_ur_lt (n := n - i - 1) (by omega) a b
theorem pq_y_mg {n k r : Nat} (hn : n ≤ 8) (hk : k ≤ 16) (hr : r < pq_V n k) {i : Nat} (hi : i < n) : pq_mg (pq_y n k r i) ≤ 16 := by
  have ⟨a, b⟩ := pq_us_s hn hk hr i (by omega)
  have e : n - i = (n - i - 1) + 1 := by omega
  rw [e] at b
  unfold pq_y
  rw [pq_uy_mg (by omega) a b]
  have ⟨_, _, d⟩ := pq_fm_s (n := n - i - 1) (by omega) a b
  omega
/-! roots, lengths in bits, the symbols of the energies -/
def pq_rt : Nat → Nat
  | 0 => 0
  | M + 1 => if (pq_rt M + 1) * (pq_rt M + 1) ≤ M + 1 then pq_rt M + 1 else pq_rt M
theorem pq_rt_s : ∀ M, pq_rt M * pq_rt M ≤ M ∧ M < (pq_rt M + 1) * (pq_rt M + 1) := by
  intro M
  induction M with
  | zero => exact ⟨by decide, by decide⟩
  | succ M ih =>
    have ⟨a, b⟩ := ih
    unfold pq_rt
    by_cases c : (pq_rt M + 1) * (pq_rt M + 1) ≤ M + 1
    · rw [if_pos c]
      refine ⟨c, ?_⟩
      have e : (pq_rt M + 1) * (pq_rt M + 1) < (pq_rt M + 1 + 1) * (pq_rt M + 1 + 1) := Nat.mul_lt_mul'' (by omega) (by omega)
      omega
    · rw [if_neg c]
      exact ⟨by omega, by omega⟩
theorem pq_rt_u {M r : Nat} (h1 : r * r ≤ M) (h2 : M < (r + 1) * (r + 1)) : r = pq_rt M := by
  have ⟨a, b⟩ := pq_rt_s M
  by_cases c : r < pq_rt M
  · have := Nat.mul_le_mul (show r + 1 ≤ pq_rt M from c) (show r + 1 ≤ pq_rt M from c)
    omega
  · by_cases d : pq_rt M < r
    · have := Nat.mul_le_mul (show pq_rt M + 1 ≤ r from d) (show pq_rt M + 1 ≤ r from d)
      omega
    · omega
theorem pq_rt_le {M c : Nat} (h : M < (c + 1) * (c + 1)) : pq_rt M ≤ c := by
  have ⟨a, _⟩ := pq_rt_s M
  by_cases d : c + 1 ≤ pq_rt M
  · have := Nat.mul_le_mul d d
    omega
  · omega
def pq_bl (M : Nat) : Nat := if M = 0 then 0 else M.log2 + 1
theorem pq_bl_lt (M : Nat) : M < 2 ^ pq_bl M := by
  unfold pq_bl
  by_cases c : M = 0
  · rw [if_pos c, c]; decide
  · rw [if_neg c]; exact Nat.lt_log2_self
theorem pq_bl_le {M j : Nat} (h : j < pq_bl M) : 2 ^ j ≤ M := by
  unfold pq_bl at h
  by_cases c : M = 0
  · rw [if_pos c] at h; omega
  · rw [if_neg c] at h
    exact (Nat.le_log2 c).mp (by omega)
theorem pq_bl_b {M B : Nat} (h : M < 2 ^ B) : pq_bl M ≤ B := by
  by_cases c : B < pq_bl M
  · have := pq_bl_le c; omega
  · omega
def pq_f (s : Nat) : Nat := if s ≤ 8 then 32 / 2 ^ ((s + 1) / 2) else 1
def pq_st (s : Nat) : Nat := pq_S pq_f s
theorem pq_f_s : ∀ s, s < 67 → pq_st s + pq_f s ≤ 150 ∧ 1 ≤ pq_f s ∧ pq_f s ≤ 32 := by decide +kernel
theorem pq_st_67 : pq_st 67 = 150 := by decide +kernel
def pq_sy (v : Nat) : Nat := pq_lg pq_st v 66
theorem pq_sy_s {v : Nat} (h : v < 150) : pq_st (pq_sy v) ≤ v ∧ v < pq_st (pq_sy v + 1) ∧ pq_sy v ≤ 66 :=
  pq_lg_s pq_st v (Nat.zero_le _) 66 (by rw [pq_st_67]; exact h)
def pq_sm (q p : Nat) : Nat := if p ≤ q then 2 * (q - p) else 2 * (p - q) - 1
theorem pq_sm_le {q p : Nat} (hq : q ≤ 33) (hp : p ≤ 25) : pq_sm q p < 67 := by
  unfold pq_sm
  by_cases c : p ≤ q
  · rw [if_pos c]; omega
  · rw [if_neg c]; omega
