section
/-! rows pasted from the rows given for pasting -/
theorem s_l : ∀ n, n < 32 → ((nI n &&& 31).toBitVec.smod 32).toNat = n := by decide +kernel
theorem wb_tb (n : Nat) : (lN n).toBitVec = BitVec.ofNat 64 n := rfl
theorem wb_inj {a b : Int64} (h : a.toBitVec = b.toBitVec) : a = b := Int64.toBitVec_inj.mp h
theorem wb_tn {n : Nat} (h : n < 2 ^ 64) : (lN n).toBitVec.toNat = n := by rw [wb_tb, BitVec.toNat_ofNat, Nat.mod_eq_of_lt h]
theorem wb_c : ∀ k, k < 64 → ((nI k).toInt64 &&& 63) = lN k := by decide +kernel
theorem wb_cu : ∀ k, k < 64 → ((nI k).toInt64.toUInt64 &&& Int64.toUInt64 63) = UInt64.ofNat k := by decide +kernel
theorem wb_sm : ∀ k, k < 64 → (BitVec.ofNat 64 k).smod 64 = BitVec.ofNat 64 k := by decide +kernel
theorem wb_pw {a b : Nat} (h : a ≤ b) : 2 ^ b = 2 ^ a * 2 ^ (b - a) := by rw [← Nat.pow_add]; congr 1; omega
theorem wb_lt2 {a b : Nat} (h : a < b) : 2 ^ a < 2 ^ b := Nat.pow_lt_pow_right (by decide) h
theorem wb_shr {n k : Nat} (hn : n < 2 ^ 64) (hk : k < 64) : ((lN n).toUInt64 >>> ((nI k).toInt64.toUInt64 &&& Int64.toUInt64 63)).toInt64 = lN (n / 2 ^ k) := by
  rw [wb_cu k hk]
  apply wb_inj
  apply BitVec.eq_of_toNat_eq
  show ((lN n).toUInt64 >>> UInt64.ofNat k).toNat = (BitVec.ofNat 64 _).toNat
  have h1 : (UInt64.ofNat k).toNat = k := by
    show (BitVec.ofNat 64 k).toNat = k
    rw [BitVec.toNat_ofNat, Nat.mod_eq_of_lt (by omega)]
  have h2 : (lN n).toUInt64.toNat = n := wb_tn hn
  rw [UInt64.toNat_shiftRight, h1, h2, Nat.mod_eq_of_lt hk, Nat.shiftRight_eq_div_pow, BitVec.toNat_ofNat, Nat.mod_eq_of_lt (Nat.lt_of_le_of_lt (Nat.div_le_self _ _) hn)]
theorem wb_shl (n : Nat) {k : Nat} (hk : k < 64) : lN n <<< ((nI k).toInt64 &&& 63) = lN (n * 2 ^ k) := by
  rw [wb_c k hk]
  apply wb_inj
  rw [Int64.toBitVec_shiftLeft, wb_tb, wb_tb, wb_tb, wb_sm k hk]
  apply BitVec.eq_of_toNat_eq
  rw [BitVec.shiftLeft_eq', BitVec.toNat_shiftLeft, BitVec.toNat_ofNat, BitVec.toNat_ofNat, BitVec.toNat_ofNat, Nat.mod_eq_of_lt (show k < 2 ^ 64 by omega), Nat.shiftLeft_eq, Nat.mul_mod, Nat.mod_mod, ← Nat.mul_mod]
theorem wb_and {a b : Nat} (ha : a < 2 ^ 64) (hb : b < 2 ^ 64) : lN a &&& lN b = lN (a &&& b) := by
  apply wb_inj
  rw [Int64.toBitVec_and, wb_tb, wb_tb, wb_tb]
  apply BitVec.eq_of_toNat_eq
  rw [BitVec.toNat_and, BitVec.toNat_ofNat, BitVec.toNat_ofNat, BitVec.toNat_ofNat, Nat.mod_eq_of_lt ha, Nat.mod_eq_of_lt hb, Nat.mod_eq_of_lt (Nat.and_lt_two_pow _ hb)]
theorem wb_mask {n k : Nat} (hn : n < 2 ^ 64) (hk : k < 64) : lN n &&& lN (2 ^ k - 1) = lN (n % 2 ^ k) := by
  rw [wb_and hn (by have := wb_lt2 hk; omega), Nat.and_two_pow_sub_one_eq_mod]
theorem u_tn {n : Nat} (h : n < 2 ^ 64) : (UInt64.ofNat n).toNat = n := Nat.mod_eq_of_lt h
theorem g_and {a b c : Nat} (ha : a < 2 ^ 64) (hb : b < 2 ^ 64) (hc : a &&& b = c) : lN a &&& lN b = lN c := by
  subst hc
  have h : UInt64.ofNat a &&& UInt64.ofNat b = UInt64.ofNat (a &&& b) := UInt64.toNat_inj.mp (by rw [UInt64.toNat_and, u_tn ha, u_tn hb, u_tn (Nat.and_lt_two_pow a hb)])
  have h2 := congrArg UInt64.toInt64 h
  exact h2
theorem g_mask {a s p : Nat} (hp : 2 ^ s = p) (hs : s < 64) (ha : a < 2 ^ 64) : lN a &&& lN (p - 1) = lN (a % p) := by
  subst hp
  have := Nat.pow_lt_pow_right (show 1 < 2 by decide) hs
  exact g_and ha (by omega) (Nat.and_two_pow_sub_one_eq_mod a s)
theorem g_ushr {a k p : Nat} {y : UInt64} (hy : y = UInt64.ofNat k) (hk : k < 64) (hp : 2 ^ k = p) (ha : a < 2 ^ 64) : ((lN a).toUInt64 >>> y).toInt64 = lN (a / p) := by
  subst hy hp
  have h : UInt64.ofNat a >>> UInt64.ofNat k = UInt64.ofNat (a / 2 ^ k) := UInt64.toNat_inj.mp (by rw [UInt64.toNat_shiftRight, u_tn ha, u_tn (by omega), u_tn (Nat.lt_of_le_of_lt (Nat.div_le_self _ _) ha), Nat.mod_eq_of_lt hk, Nat.shiftRight_eq_div_pow])
  have h2 := congrArg UInt64.toInt64 h
  exact h2
theorem g_shl {a k p : Nat} {y : Int64} (hy : y.toBitVec.smod 64 = BitVec.ofNat 64 k) (hk : k < 64) (hp : 2 ^ k = p) (ha : a < 2 ^ 64) : lN a <<< y = lN (a * p) := by
  subst hp
  apply Int64.toBitVec_inj.mp
  rw [Int64.toBitVec_shiftLeft, hy]
  apply BitVec.eq_of_toNat_eq
  have hb : (lN a).toBitVec.toNat = a := Nat.mod_eq_of_lt ha
  have hk' : (BitVec.ofNat 64 k).toNat = k := Nat.mod_eq_of_lt (by omega)
  have h : ((lN a).toBitVec <<< BitVec.ofNat 64 k).toNat = (a * 2 ^ k) % 2 ^ 64 := by simp only [BitVec.shiftLeft_eq', BitVec.toNat_shiftLeft, hb, hk', Nat.shiftLeft_eq]
  exact h
theorem pf_lI {a : Nat} (h : a < 2 ^ 63) : (lN a).toInt = (a : Int) := lg_ofNat_toInt h
theorem pf_shr {a d : Nat} {D : Int64} (hD : (D.toBitVec.smod 64).toNat = d) (h : a < 2 ^ 62) : lN a >>> D = lN (a / 2 ^ d) := by
  have hd : a / 2 ^ d ≤ a := Nat.div_le_self _ _
  apply Int64.toInt_inj.mp
  have e : (lN a >>> D).toInt = (lN a).toInt >>> d := by
    rw [← hD]
    exact BitVec.toInt_sshiftRight ..
  rw [e, Int.shiftRight_eq_div_pow, pf_lI (by omega), pf_lI (by omega)]
  rfl
theorem pf_ushr {a d : Nat} {D : UInt64} (hD : D.toNat % 64 = d) (h : a < 2 ^ 62) : ((lN a).toUInt64 >>> D).toInt64 = lN (a / 2 ^ d) := by
  have hd : a / 2 ^ d ≤ a := Nat.div_le_self _ _
  have e : (lN a).toUInt64 >>> D = UInt64.ofNat (a / 2 ^ d) := UInt64.toNat_inj.mp (by
    rw [UInt64.toNat_shiftRight, hD, Nat.shiftRight_eq_div_pow, UInt64.toNat_ofNat']
    show (UInt64.ofNat a).toNat / 2 ^ d = _
    rw [UInt64.toNat_ofNat', Nat.mod_eq_of_lt (by omega), Nat.mod_eq_of_lt (by omega)])
  rw [e]
  rfl
theorem g_or {k p a b : Nat} (hp : 2 ^ k = p) (ha : a < p) (h : b * p + a < 2 ^ 64) : lN (b * p) ||| lN a = lN (b * p + a) := by
  subst hp
  have h1 : b * 2 ^ k ||| a = b * 2 ^ k + a := by rw [← Nat.shiftLeft_eq, Nat.shiftLeft_add_eq_or_of_lt ha]
  have h3 : UInt64.ofNat (b * 2 ^ k) ||| UInt64.ofNat a = UInt64.ofNat (b * 2 ^ k + a) := UInt64.toNat_inj.mp (by rw [UInt64.toNat_or, u_tn (by omega), u_tn (by omega), u_tn h, h1])
  have h2 := congrArg UInt64.toInt64 h3
  exact h2
theorem g_or' {k p a b : Nat} (hp : 2 ^ k = p) (ha : a < p) (h : a + b * p < 2 ^ 64) : lN a ||| lN (b * p) = lN (a + b * p) := by
  rw [Int64.or_comm, g_or hp ha (by omega), Nat.add_comm]
theorem wb_of32 (x : Int32) : ∃ n, n < 2 ^ 32 ∧ x = nI n := ⟨x.toBitVec.toNat, x.toBitVec.isLt, Int32.toBitVec_inj.mp (by show _ = BitVec.ofNat 32 _; simp)⟩
end
section
/-! magnitudes -/
def pq_mg (x : Int32) : Nat := x.toInt.natAbs
theorem pq_mg_nI {m : Nat} (h : m < 2 ^ 31) : pq_mg (nI m) = m := by
  rw [pq_mg, nI_toInt h, Int.natAbs_natCast]
theorem pq_mg_neg {m : Nat} (h : m < 2 ^ 31) : pq_mg (-nI m) = m := by
  rw [pq_mg, sb_negT h, Int.natAbs_neg, Int.natAbs_natCast]
theorem pq_mg_p {x : Int32} (h : ¬ x < 0) : x = nI (pq_mg x) := by
  obtain ⟨j, hj, rfl⟩ := nI_of h
  rw [pq_mg_nI hj]
theorem pq_z32 : (0 : Int32).toInt = 0 := by decide
theorem pq_z64 : (0 : Int64).toInt = 0 := by decide
theorem pq_tneg {x : Int32} (h : x < 0) : x.toInt < 0 := by
  have h2 := Int32.lt_iff_toInt_lt.mp h
  rw [pq_z32] at h2
  exact h2
theorem pq_mg_e {x : Int32} (h : x < 0) : x.toInt = -((pq_mg x : Nat) : Int) := by
  have h1 := pq_tneg h
  unfold pq_mg
  omega
theorem pq_mg_n {x : Int32} (h : x < 0) : -x = nI (pq_mg x) := by
  have h2 := pq_mg_e h
  have h3 : x = Int32.ofInt (-((pq_mg x : Nat) : Int)) := by rw [← h2, Int32.ofInt_toInt]
  have h4 : -x = - Int32.ofInt (-((pq_mg x : Nat) : Int)) := congrArg Neg.neg h3
  rw [h4, Int32.neg_ofInt, Int.neg_neg, Int32.ofInt_eq_ofNat]
  rfl
theorem pq_mg_1 {x : Int32} (h : x < 0) : 1 ≤ pq_mg x := by
  have h1 := pq_tneg h
  unfold pq_mg
  omega
theorem pq_neg_lt {m : Nat} (h0 : 0 < m) (h : m < 2 ^ 31) : -nI m < 0 := by
  rw [Int32.lt_iff_toInt_lt, sb_negT h, pq_z32]
  omega
theorem pq_mgL (x : Int32) : x.toInt64 * x.toInt64 = lN (pq_mg x * pq_mg x) := by
  rw [← Int64.ofInt_int32ToInt, ← Int64.ofInt_mul, ← Int.natAbs_mul_self, Int64.ofInt_eq_ofNat]
  rfl
theorem pq_L_lt {x : Int32} : x.toInt64 < 0 ↔ x < 0 := by
  rw [Int64.lt_iff_toInt_lt, Int32.lt_iff_toInt_lt, Int32.toInt_toInt64, pq_z32, pq_z64]
theorem pq_L_n {x : Int32} (h : x < 0) : -x.toInt64 = lN (pq_mg x) := by
  have h2 := pq_mg_e h
  have h3 : -x.toInt = ((pq_mg x : Nat) : Int) := by omega
  rw [← Int64.ofInt_int32ToInt, Int64.neg_ofInt, h3, Int64.ofInt_eq_ofNat]
  rfl
theorem pq_L_p {x : Int32} (h : ¬ x < 0) : x.toInt64 = lN (pq_mg x) := by
  obtain ⟨j, hj, rfl⟩ := nI_of h
  rw [pq_mg_nI hj, nI_l hj]
theorem pq_mg_l {x : Int32} (h : pq_mg x < 2 ^ 31) : (nI (pq_mg x)).toInt64 = lN (pq_mg x) := nI_l h
/-! sums, and the largest place below a value -/
def pq_S (f : Nat → Nat) : Nat → Nat
  | 0 => 0
  | k + 1 => pq_S f k + f k
theorem pq_S_mono (f : Nat → Nat) {a : Nat} : ∀ {b : Nat}, a ≤ b → pq_S f a ≤ pq_S f b := by
  intro b
  induction b with
  | zero => intro h; rw [Nat.le_zero.mp h]; exact Nat.le_refl _
  | succ b ih =>
    intro h
    by_cases e : a = b + 1
    · subst e; exact Nat.le_refl _
    · have h1 := ih (by omega)
      show pq_S f a ≤ pq_S f b + f b
      omega
theorem pq_S_le (f : Nat → Nat) (c : Nat) : ∀ n, (∀ j, j < n → f j ≤ c) → pq_S f n ≤ n * c := by
  intro n
  induction n with
  | zero => intro _; exact Nat.zero_le _
  | succ n ih =>
    intro h
    have h1 := ih (fun j hj => h j (by omega))
    have h2 := h n (by omega)
    show pq_S f n + f n ≤ (n + 1) * c
    rw [Nat.add_mul, Nat.one_mul]
    omega
theorem pq_S_ge (f : Nat → Nat) {n : Nat} : ∀ {j : Nat}, j < n → f j ≤ pq_S f n := by
  induction n with
  | zero => intro j h; omega
  | succ n ih =>
    intro j h
    show f j ≤ pq_S f n + f n
    by_cases e : j = n
    · subst e; omega
    · have := ih (j := j) (by omega); omega
theorem pq_S_ext {f g : Nat → Nat} : ∀ n, (∀ j, j < n → f j = g j) → pq_S f n = pq_S g n := by
  intro n
  induction n with
  | zero => intro _; rfl
  | succ n ih =>
    intro h
    show pq_S f n + f n = pq_S g n + g n
    rw [ih (fun j hj => h j (by omega)), h n (by omega)]
def pq_lg (g : Nat → Nat) (r : Nat) : Nat → Nat
  | 0 => 0
  | K + 1 => if g (K + 1) ≤ r then K + 1 else pq_lg g r K
theorem pq_lg_s (g : Nat → Nat) (r : Nat) (h0 : g 0 ≤ r) : ∀ K, r < g (K + 1) → g (pq_lg g r K) ≤ r ∧ r < g (pq_lg g r K + 1) ∧ pq_lg g r K ≤ K := by
  intro K
  induction K with
  | zero => intro h; exact ⟨h0, h, Nat.le_refl _⟩
  | succ K ih =>
    intro h
    unfold pq_lg
    by_cases c : g (K + 1) ≤ r
    · rw [if_pos c]; exact ⟨c, h, Nat.le_refl _⟩
    · rw [if_neg c]
      have ⟨a, b, d⟩ := ih (by omega)
      exact ⟨a, b, by omega⟩
/-! the pyramid -/
def pq_T : List Nat := [1, 0, 0, 0, 0, 0, 0, 0, 0, 0, 0, 0, 0, 0, 0, 0, 0, 1, 2, 2, 2, 2, 2, 2, 2, 2, 2, 2, 2, 2, 2, 2, 2, 2, 1, 4, 8, 12, 16, 20, 24, 28, 32, 36, 40, 44, 48, 52, 56, 60, 64, 1, 6, 18, 38, 66, 102, 146, 198, 258, 326, 402, 486, 578, 678, 786, 902, 1026, 1, 8, 32, 88, 192, 360, 608, 952, 1408, 1992, 2720, 3608, 4672, 5928, 7392, 9080, 11008, 1, 10, 50, 170, 450, 1002, 1970, 3530, 5890, 9290, 14002, 20330, 28610, 39210, 52530, 69002, 89090, 1, 12, 72, 292, 912, 2364, 5336, 10836, 20256, 35436, 58728, 93060, 142000, 209820, 301560, 423092, 581184, 1, 14, 98, 462, 1666, 4942, 12642, 28814, 59906, 115598, 209762, 361550, 596610, 948430, 1459810, 2184462, 3188738, 1, 16, 128, 688, 2816, 9424, 27008, 68464, 157184, 332688, 658048, 1229360, 2187520, 3732560, 6140800, 9785072, 15158272]
def pq_t (j : Nat) : Nat := pq_T.getD j 0
def pq_V (n k : Nat) : Nat := pq_t (n * 17 + k)
theorem pq_row : ∀ n, n < 8 → ∀ k, k < 17 → pq_V (n + 1) k = pq_V n k + 2 * pq_S (pq_V n) k := by decide +kernel
theorem pq_tle0 : ∀ j, j < 153 → pq_t j ≤ 15158272 := by decide +kernel
theorem pq_Vle {n k : Nat} (hn : n ≤ 8) (hk : k ≤ 16) : pq_V n k ≤ 15158272 := pq_tle0 _ (by omega)
theorem pq_Vpos : ∀ k, k < 17 → 1 ≤ pq_V 8 k := by decide +kernel
def pq_W (n k : Nat) : Nat → Nat
  | 0 => 0
  | m + 1 => pq_W n k m + (if m = 0 then 1 else 2) * pq_V n (k - m)
theorem pq_full : ∀ n, n < 8 → ∀ k, k < 17 → pq_W n k (k + 1) = pq_V (n + 1) k := by decide +kernel
theorem pq_W_mono (n k : Nat) {a : Nat} : ∀ {b : Nat}, a ≤ b → pq_W n k a ≤ pq_W n k b := by
  intro b
  induction b with
  | zero => intro h; rw [Nat.le_zero.mp h]; exact Nat.le_refl _
  | succ b ih =>
    intro h
    by_cases e : a = b + 1
    · subst e; exact Nat.le_refl _
    · have h1 := ih (by omega)
      show pq_W n k a ≤ pq_W n k b + _
      omega
def pq_ix (a : Nat → Int32) : Nat → Nat → Nat → Nat
  | _, 0, _ => 0
  | i, n + 1, k => pq_W n k (pq_mg (a i)) + (if a i < 0 then pq_V n (k - pq_mg (a i)) else 0) + pq_ix a (i + 1) n (k - pq_mg (a i))
def pq_M (a : Nat → Int32) : Nat → Nat → Nat
  | _, 0 => 0
  | i, n + 1 => pq_mg (a i) + pq_M a (i + 1) n
theorem pq_ix_lt (a : Nat → Int32) : ∀ n i k, n ≤ 8 → k ≤ 16 → pq_M a i n = k → pq_ix a i n k < pq_V n k := by
  intro n
  induction n with
  | zero =>
    intro i k _ _ h
    have h2 : k = 0 := h.symm
    subst h2
    show 0 < pq_V 0 0
    decide +kernel
  | succ n ih =>
    intro i k hn hk h
    have h2 : pq_mg (a i) + pq_M a (i + 1) n = k := h
    have h3 := ih (i + 1) (k - pq_mg (a i)) (by omega) (by omega) (by omega)
    have h4 := pq_full n (by omega) k (by omega)
    have h5 : pq_W n k (pq_mg (a i) + 1) ≤ pq_W n k (k + 1) := pq_W_mono n k (by omega)
    have h6 : pq_W n k (pq_mg (a i) + 1) = pq_W n k (pq_mg (a i)) + (if pq_mg (a i) = 0 then 1 else 2) * pq_V n (k - pq_mg (a i)) := rfl
    show pq_W n k (pq_mg (a i)) + (if a i < 0 then pq_V n (k - pq_mg (a i)) else 0) + pq_ix a (i + 1) n (k - pq_mg (a i)) < pq_V (n + 1) k
    by_cases c : a i < 0
    · have h7 := pq_mg_1 c
      rw [if_pos c]
      rw [if_neg (by omega)] at h6
      omega
    · rw [if_neg c]
      by_cases z : pq_mg (a i) = 0
      · rw [if_pos z] at h6; omega
      · rw [if_neg z] at h6; omega
/-! taking an index apart: n is the number of the cells behind -/
def pq_fm (n k r : Nat) : Nat := pq_lg (pq_W n k) r k
abbrev pq_ng (n k r : Nat) : Prop := 0 < pq_fm n k r ∧ pq_V n (k - pq_fm n k r) ≤ r - pq_W n k (pq_fm n k r)
def pq_uy (n k r : Nat) : Int32 := if pq_ng n k r then -nI (pq_fm n k r) else nI (pq_fm n k r)
def pq_ur (n k r : Nat) : Nat := if pq_ng n k r then r - pq_W n k (pq_fm n k r) - pq_V n (k - pq_fm n k r) else r - pq_W n k (pq_fm n k r)
theorem pq_fm_s {n k r : Nat} (hn : n < 8) (hk : k ≤ 16) (hr : r < pq_V (n + 1) k) : pq_W n k (pq_fm n k r) ≤ r ∧ r < pq_W n k (pq_fm n k r + 1) ∧ pq_fm n k r ≤ k :=
  pq_lg_s (pq_W n k) r (Nat.zero_le _) k (by rw [pq_full n hn k (by omega)]; exact hr)
theorem pq_uy_n {n k r : Nat} (h : pq_ng n k r) : pq_uy n k r = -nI (pq_fm n k r) := by unfold pq_uy; exact if_pos h
theorem pq_uy_p {n k r : Nat} (h : ¬ pq_ng n k r) : pq_uy n k r = nI (pq_fm n k r) := by unfold pq_uy; exact if_neg h
theorem pq_ur_n {n k r : Nat} (h : pq_ng n k r) : pq_ur n k r = r - pq_W n k (pq_fm n k r) - pq_V n (k - pq_fm n k r) := by unfold pq_ur; exact if_pos h
theorem pq_ur_p {n k r : Nat} (h : ¬ pq_ng n k r) : pq_ur n k r = r - pq_W n k (pq_fm n k r) := by unfold pq_ur; exact if_neg h
theorem pq_ur_lt {n k r : Nat} (hn : n < 8) (hk : k ≤ 16) (hr : r < pq_V (n + 1) k) : pq_ur n k r < pq_V n (k - pq_fm n k r) := by
  have ⟨a, b, _⟩ := pq_fm_s hn hk hr
  have h6 : pq_W n k (pq_fm n k r + 1) = pq_W n k (pq_fm n k r) + (if pq_fm n k r = 0 then 1 else 2) * pq_V n (k - pq_fm n k r) := rfl
  by_cases c : pq_ng n k r
  · rw [pq_ur_n c]
    have ⟨c1, c2⟩ := c
    rw [if_neg (by omega)] at h6
    omega
  · rw [pq_ur_p c]
    by_cases z : pq_fm n k r = 0
    · rw [if_pos z] at h6; omega
    · rw [if_neg z] at h6
      have c2 : ¬ pq_V n (k - pq_fm n k r) ≤ r - pq_W n k (pq_fm n k r) := fun y => c ⟨by omega, y⟩
      omega
theorem pq_uy_mg {n k r : Nat} (hn : n < 8) (hk : k ≤ 16) (hr : r < pq_V (n + 1) k) : pq_mg (pq_uy n k r) = pq_fm n k r := by
  have ⟨_, _, d⟩ := pq_fm_s hn hk hr
  by_cases c : pq_ng n k r
  · rw [pq_uy_n c, pq_mg_neg (by omega)]
  · rw [pq_uy_p c, pq_mg_nI (by omega)]
def pq_us (n k r : Nat) : Nat → Nat × Nat
  | 0 => (k, r)
  | i + 1 => ((pq_us n k r i).1 - pq_fm (n - i - 1) (pq_us n k r i).1 (pq_us n k r i).2, pq_ur (n - i - 1) (pq_us n k r i).1 (pq_us n k r i).2)
def pq_y (n k r i : Nat) : Int32 := pq_uy (n - i - 1) (pq_us n k r i).1 (pq_us n k r i).2
theorem pq_us_s {n k r : Nat} (hn : n ≤ 8) (hk : k ≤ 16) (hr : r < pq_V n k) : ∀ i, i ≤ n → (pq_us n k r i).1 ≤ 16 ∧ (pq_us n k r i).2 < pq_V (n - i) (pq_us n k r i).1 := by
  intro i
  induction i with
  | zero => intro _; exact ⟨hk, hr⟩
  | succ i ih =>
    intro hi
    have ⟨a, b⟩ := ih (by omega)
    have e : n - i = (n - i - 1) + 1 := by omega
    rw [e] at b
    refine ⟨Nat.le_trans (Nat.sub_le _ _) a, ?_⟩
    exact pq_ur_lt (n := n - i - 1) (by omega) a b
theorem pq_y_mg {n k r : Nat} (hn : n ≤ 8) (hk : k ≤ 16) (hr : r < pq_V n k) {i : Nat} (hi : i < n) : pq_mg (pq_y n k r i) ≤ 16 := by
  have ⟨a, b⟩ := pq_us_s hn hk hr i (by omega)
  have e : n - i = (n - i - 1) + 1 := by omega
  rw [e] at b
  unfold pq_y
  rw [pq_uy_mg (by omega) a b]
  have ⟨_, _, d⟩ := pq_fm_s (n := n - i - 1) (by omega) a b
  omega
/-! roots, lengths in bits, the symbols of the energies -/
def pq_rt : Nat → Nat
  | 0 => 0
  | M + 1 => if (pq_rt M + 1) * (pq_rt M + 1) ≤ M + 1 then pq_rt M + 1 else pq_rt M
theorem pq_rt_s : ∀ M, pq_rt M * pq_rt M ≤ M ∧ M < (pq_rt M + 1) * (pq_rt M + 1) := by
  intro M
  induction M with
  | zero => exact ⟨by decide, by decide⟩
  | succ M ih =>
    have ⟨a, b⟩ := ih
    unfold pq_rt
    by_cases c : (pq_rt M + 1) * (pq_rt M + 1) ≤ M + 1
    · rw [if_pos c]
      refine ⟨c, ?_⟩
      have e : (pq_rt M + 1) * (pq_rt M + 1) < (pq_rt M + 1 + 1) * (pq_rt M + 1 + 1) := Nat.mul_lt_mul'' (by omega) (by omega)
      omega
    · rw [if_neg c]
      exact ⟨by omega, by omega⟩
theorem pq_rt_u {M r : Nat} (h1 : r * r ≤ M) (h2 : M < (r + 1) * (r + 1)) : r = pq_rt M := by
  have ⟨a, b⟩ := pq_rt_s M
  by_cases c : r < pq_rt M
  · have := Nat.mul_le_mul (show r + 1 ≤ pq_rt M from c) (show r + 1 ≤ pq_rt M from c)
    omega
  · by_cases d : pq_rt M < r
    · have := Nat.mul_le_mul (show pq_rt M + 1 ≤ r from d) (show pq_rt M + 1 ≤ r from d)
      omega
    · omega
theorem pq_rt_le {M c : Nat} (h : M < (c + 1) * (c + 1)) : pq_rt M ≤ c := by
  have ⟨a, _⟩ := pq_rt_s M
  by_cases d : c + 1 ≤ pq_rt M
  · have := Nat.mul_le_mul d d
    omega
  · omega
def pq_bl (M : Nat) : Nat := if M = 0 then 0 else M.log2 + 1
theorem pq_bl_lt (M : Nat) : M < 2 ^ pq_bl M := by
  unfold pq_bl
  by_cases c : M = 0
  · rw [if_pos c, c]; decide
  · rw [if_neg c]; exact Nat.lt_log2_self
theorem pq_bl_le {M j : Nat} (h : j < pq_bl M) : 2 ^ j ≤ M := by
  unfold pq_bl at h
  by_cases c : M = 0
  · rw [if_pos c] at h; omega
  · rw [if_neg c] at h
    exact (Nat.le_log2 c).mp (by omega)
theorem pq_bl_b {M B : Nat} (h : M < 2 ^ B) : pq_bl M ≤ B := by
  by_cases c : B < pq_bl M
  · have := pq_bl_le c; omega
  · omega
def pq_f (s : Nat) : Nat := if s ≤ 8 then 32 / 2 ^ ((s + 1) / 2) else 1
def pq_st (s : Nat) : Nat := pq_S pq_f s
theorem pq_f_s : ∀ s, s < 67 → pq_st s + pq_f s ≤ 150 ∧ 1 ≤ pq_f s ∧ pq_f s ≤ 32 := by decide +kernel
theorem pq_st_67 : pq_st 67 = 150 := by decide +kernel
def pq_sy (v : Nat) : Nat := pq_lg pq_st v 66
theorem pq_sy_s {v : Nat} (h : v < 150) : pq_st (pq_sy v) ≤ v ∧ v < pq_st (pq_sy v + 1) ∧ pq_sy v ≤ 66 :=
  pq_lg_s pq_st v (Nat.zero_le _) 66 (by rw [pq_st_67]; exact h)
def pq_sm (q p : Nat) : Nat := if p ≤ q then 2 * (q - p) else 2 * (p - q) - 1
theorem pq_sm_le {q p : Nat} (hq : q ≤ 33) (hp : p ≤ 25) : pq_sm q p < 67 := by
  unfold pq_sm
  by_cases c : p ≤ q
  · rw [if_pos c]; omega
  · rw [if_neg c]; omega
end
section
/-! the range encoder: low, range, cache, pending, length, packet -/
abbrev pq_E : Type := Nat × Nat × Nat × Nat × Nat × (Nat → Int32)
def pq_em (x : Nat) (s : Nat × (Nat → Int32)) : Nat × (Nat → Int32) := if s.1 < 64 then (s.1 + 1, upd s.2 s.1 (nI x)) else s
def pq_en (x : Nat) : Nat → Nat × (Nat → Int32) → Nat × (Nat → Int32)
  | 0, s => s
  | i + 1, s => pq_en x i (pq_em x s)
def pq_B (pk : Nat → Int32) : Prop := ∀ i, i < 64 → ∃ b, b < 256 ∧ pk i = nI b
theorem pq_B_u {pk : Nat → Int32} (h : pq_B pk) {j b : Nat} (hb : b < 256) : pq_B (upd pk j (nI b)) := by
  intro i hi
  by_cases e : i = j
  · subst e; exact ⟨b, hb, pk_us⟩
  · obtain ⟨c, hc, e2⟩ := h i hi
    exact ⟨c, hc, by rw [pk_un e, e2]⟩
theorem pq_em_s {x : Nat} {s : Nat × (Nat → Int32)} (hx : x < 256) (h1 : s.1 ≤ 64) (h2 : pq_B s.2) : (pq_em x s).1 ≤ 64 ∧ pq_B (pq_em x s).2 := by
  unfold pq_em
  by_cases c : s.1 < 64
  · rw [if_pos c]; exact ⟨c, pq_B_u h2 hx⟩
  · rw [if_neg c]; exact ⟨h1, h2⟩
theorem pq_en_s {x : Nat} (hx : x < 256) : ∀ i (s : Nat × (Nat → Int32)), s.1 ≤ 64 → pq_B s.2 → (pq_en x i s).1 ≤ 64 ∧ pq_B (pq_en x i s).2 := by
  intro i
  induction i with
  | zero => intro s h1 h2; exact ⟨h1, h2⟩
  | succ i ih =>
    intro s h1 h2
    have ⟨a, b⟩ := pq_em_s hx h1 h2
    exact ih _ a b
def pq_sh (e : pq_E) : pq_E :=
  if e.1 < 4278190080 ∨ 4294967296 ≤ e.1 then
    (e.1 % 16777216 * 256, e.2.1, e.1 / 16777216 % 256, 1, pq_en ((255 + e.1 / 4294967296) % 256) (e.2.2.2.1 - 1) (pq_em ((e.2.2.1 + e.1 / 4294967296) % 256) (e.2.2.2.2.1, e.2.2.2.2.2)))
  else (e.1 % 16777216 * 256, e.2.1, e.2.2.1, e.2.2.2.1 + 1, e.2.2.2.2.1, e.2.2.2.2.2)
def pq_EW (B : Nat) (e : pq_E) : Prop := e.2.2.1 < 256 ∧ e.2.2.2.1 ≤ B ∧ e.2.2.2.2.1 ≤ 64 ∧ pq_B e.2.2.2.2.2
theorem pq_EW_le {B C : Nat} {e : pq_E} (h : pq_EW B e) (hb : B ≤ C) : pq_EW C e := ⟨h.1, Nat.le_trans h.2.1 hb, h.2.2⟩
theorem pq_sh_w {B : Nat} {e : pq_E} (h : pq_EW B e) : pq_EW (B + 1) (pq_sh e) := by
  obtain ⟨h1, h2, h3, h4⟩ := h
  unfold pq_sh
  by_cases c : e.1 < 4278190080 ∨ 4294967296 ≤ e.1
  · rw [if_pos c]
    have ⟨a, b⟩ := pq_em_s (x := (e.2.2.1 + e.1 / 4294967296) % 256) (s := (e.2.2.2.2.1, e.2.2.2.2.2)) (Nat.mod_lt _ (by decide)) h3 h4
    have ⟨a2, b2⟩ := pq_en_s (x := (255 + e.1 / 4294967296) % 256) (Nat.mod_lt _ (by decide)) (e.2.2.2.1 - 1) _ a b
    exact ⟨Nat.mod_lt _ (by decide), Nat.succ_le_succ (Nat.zero_le _), a2, b2⟩
  · rw [if_neg c]
    exact ⟨h1, Nat.succ_le_succ h2, h3, h4⟩
theorem pq_sh_1 (e : pq_E) : (pq_sh e).1 < 4294967296 := by
  have h : e.1 % 16777216 < 16777216 := Nat.mod_lt _ (by decide)
  unfold pq_sh
  by_cases c : e.1 < 4278190080 ∨ 4294967296 ≤ e.1
  · rw [if_pos c]; show e.1 % 16777216 * 256 < _; omega
  · rw [if_neg c]; show e.1 % 16777216 * 256 < _; omega
theorem pq_sh_2 (e : pq_E) : (pq_sh e).2.1 = e.2.1 := by
  unfold pq_sh
  by_cases c : e.1 < 4278190080 ∨ 4294967296 ≤ e.1
  · rw [if_pos c]
  · rw [if_neg c]
def pq_s1 (e : pq_E) : pq_E := pq_sh (e.1, e.2.1 * 256, e.2.2)
theorem pq_s1_2 (e : pq_E) : (pq_s1 e).2.1 = e.2.1 * 256 := pq_sh_2 _
theorem pq_s1_1 (e : pq_E) : (pq_s1 e).1 < 4294967296 := pq_sh_1 _
theorem pq_s1_w {B : Nat} {e : pq_E} (h : pq_EW B e) : pq_EW (B + 1) (pq_s1 e) := pq_sh_w (e := (e.1, e.2.1 * 256, e.2.2)) h
def pq_rn (e : pq_E) : pq_E := if e.2.1 < 16777216 then (if (pq_s1 e).2.1 < 16777216 then pq_s1 (pq_s1 e) else pq_s1 e) else e
def pq_EI (B : Nat) (e : pq_E) : Prop := pq_EW B e ∧ e.1 + e.2.1 ≤ 8589934592 ∧ 16777216 ≤ e.2.1 ∧ e.2.1 < 4294967296
theorem pq_EI_le {B C : Nat} {e : pq_E} (h : pq_EI B e) (hb : B ≤ C) : pq_EI C e := ⟨pq_EW_le h.1 hb, h.2⟩
theorem pq_rn_s {B : Nat} {e : pq_E} (h : pq_EW B e) (h1 : e.1 + e.2.1 ≤ 8589934592) (h2 : 256 ≤ e.2.1) (h3 : e.2.1 < 4294967296) : pq_EI (B + 2) (pq_rn e) := by
  unfold pq_rn
  have a1 := pq_s1_1 e
  have a2 := pq_s1_2 e
  have b1 := pq_s1_1 (pq_s1 e)
  have b2 := pq_s1_2 (pq_s1 e)
  have w1 := pq_s1_w h
  have w2 := pq_s1_w w1
  by_cases c : e.2.1 < 16777216
  · rw [if_pos c]
    by_cases d : (pq_s1 e).2.1 < 16777216
    · rw [if_pos d]; exact ⟨w2, by omega, by omega, by omega⟩
    · rw [if_neg d]; exact ⟨pq_EW_le w1 (by omega), by omega, by omega, by omega⟩
  · rw [if_neg c]; exact ⟨pq_EW_le h (by omega), h1, by omega, h3⟩
def pq_c0 (e : pq_E) (start size total : Nat) : pq_E := (e.1 + e.2.1 / total * start, e.2.1 / total * size, e.2.2)
def pq_cd (e : pq_E) (start size total : Nat) : pq_E := pq_rn (pq_c0 e start size total)
theorem pq_r {rng total : Nat} (h : 16777216 ≤ rng) (h0 : 1 ≤ total) (h1 : total ≤ 65536) : 256 ≤ rng / total ∧ rng / total * total ≤ rng := by
  refine ⟨?_, Nat.div_mul_le_self _ _⟩
  rw [Nat.le_div_iff_mul_le (by omega)]
  omega
theorem pq_c0_s {B : Nat} {e : pq_E} {start size total : Nat} (h : pq_EI B e) (h0 : 1 ≤ total) (h1 : total ≤ 65536) (h2 : 1 ≤ size) (h3 : start + size ≤ total) :
    (pq_c0 e start size total).1 + (pq_c0 e start size total).2.1 ≤ 8589934592 ∧ 256 ≤ (pq_c0 e start size total).2.1 ∧ (pq_c0 e start size total).2.1 < 4294967296 := by
  obtain ⟨w, l, r0, r1⟩ := h
  have ⟨a, b⟩ := pq_r r0 h0 h1
  show e.1 + e.2.1 / total * start + e.2.1 / total * size ≤ 8589934592 ∧ 256 ≤ e.2.1 / total * size ∧ e.2.1 / total * size < 4294967296
  generalize hr : e.2.1 / total = r at *
  have m1 : r * (start + size) ≤ r * total := Nat.mul_le_mul_left r h3
  have m2 : r * 1 ≤ r * size := Nat.mul_le_mul_left r h2
  rw [Nat.mul_add] at m1
  omega
theorem pq_cd_s {B : Nat} {e : pq_E} {start size total : Nat} (h : pq_EI B e) (h0 : 1 ≤ total) (h1 : total ≤ 65536) (h2 : 1 ≤ size) (h3 : start + size ≤ total) : pq_EI (B + 2) (pq_cd e start size total) := by
  have ⟨a, b, c⟩ := pq_c0_s h h0 h1 h2 h3
  exact pq_rn_s (e := pq_c0 e start size total) h.1 a b c
def pq_ap (k : Nat) : Nat := if pq_V 8 k ≤ 65536 then 0 else pq_bl (pq_V 8 k - 1) - 16
theorem pq_ap_s : ∀ k, k < 17 → 65536 < pq_V 8 k → 1 ≤ pq_ap k ∧ pq_ap k ≤ 8 ∧ (pq_V 8 k - 1) / 2 ^ pq_ap k + 1 ≤ 65536 ∧ pq_bl (pq_V 8 k - 1) = pq_ap k + 16 := by decide +kernel
theorem pq_ap_p : ∀ a, a ≤ 8 → 1 ≤ 2 ^ a ∧ 2 ^ a ≤ 256 := by
  intro a h
  exact ⟨Nat.one_le_two_pow, Nat.pow_le_pow_right (n := 2) (i := a) (j := 8) (by decide) h⟩
def pq_cp (e : pq_E) (k idx : Nat) : pq_E :=
  if pq_V 8 k ≤ 65536 then pq_cd e idx 1 (pq_V 8 k)
  else pq_cd (pq_cd e (idx / 2 ^ pq_ap k) 1 ((pq_V 8 k - 1) / 2 ^ pq_ap k + 1)) (idx % 2 ^ pq_ap k) 1 (2 ^ pq_ap k)
theorem pq_cp_s {B : Nat} {e : pq_E} {k idx : Nat} (h : pq_EI B e) (hk : k ≤ 16) (hi : idx < pq_V 8 k) : pq_EI (B + 4) (pq_cp e k idx) := by
  unfold pq_cp
  by_cases c : pq_V 8 k ≤ 65536
  · rw [if_pos c]
    exact pq_EI_le (pq_cd_s h (by omega) c (by omega) (by omega)) (by omega)
  · rw [if_neg c]
    have ⟨a1, a2, a3, _⟩ := pq_ap_s k (by omega) (by omega)
    have ⟨p1, p2⟩ := pq_ap_p _ a2
    have m : idx / 2 ^ pq_ap k ≤ (pq_V 8 k - 1) / 2 ^ pq_ap k := Nat.div_le_div_right (by omega)
    have r : idx % 2 ^ pq_ap k < 2 ^ pq_ap k := Nat.mod_lt _ p1
    exact pq_cd_s (pq_cd_s h (Nat.succ_pos _) a3 (Nat.le_refl _) (Nat.succ_le_succ m)) p1 (Nat.le_trans p2 (by decide)) (Nat.le_refl _) r
/-! the range decoder: position, range, code -/
def pq_by (pk : Nat → Int32) (le p : Nat) : Nat := if p < le then (pk p).toNatClampNeg else 0
theorem pq_by_e {pk : Nat → Int32} {le p : Nat} (h : pq_B pk) (hl : le ≤ 64) (hp : p < le) : pk p = nI (pq_by pk le p) ∧ pq_by pk le p < 256 := by
  obtain ⟨b, hb, e⟩ := h p (by omega)
  unfold pq_by
  rw [if_pos hp, e, nI_clamp (by omega)]
  exact ⟨rfl, hb⟩
theorem pq_by_z {pk : Nat → Int32} {le p : Nat} (hp : ¬ p < le) : pq_by pk le p = 0 := if_neg hp
theorem pq_by_lt {pk : Nat → Int32} {le : Nat} (h : pq_B pk) (hl : le ≤ 64) (p : Nat) : pq_by pk le p < 256 := by
  by_cases c : p < le
  · exact (pq_by_e h hl c).2
  · rw [pq_by_z c]; decide
abbrev pq_D : Type := Nat × Nat × Nat
def pq_tk (pk : Nat → Int32) (le : Nat) (d : pq_D) : pq_D := (d.1 + 1, d.2.1, (d.2.2 * 256 + pq_by pk le d.1) % 4294967296)
def pq_t1 (pk : Nat → Int32) (le : Nat) (d : pq_D) : pq_D := pq_tk pk le (d.1, d.2.1 * 256, d.2.2)
def pq_dn (pk : Nat → Int32) (le : Nat) (d : pq_D) : pq_D := if d.2.1 < 16777216 then (if (pq_t1 pk le d).2.1 < 16777216 then pq_t1 pk le (pq_t1 pk le d) else pq_t1 pk le d) else d
def pq_DI (B : Nat) (d : pq_D) : Prop := d.1 ≤ B ∧ 16777216 ≤ d.2.1 ∧ d.2.1 < 4294967296 ∧ d.2.2 < 4294967296
theorem pq_DI_le {B C : Nat} {d : pq_D} (h : pq_DI B d) (hb : B ≤ C) : pq_DI C d := ⟨Nat.le_trans h.1 hb, h.2⟩
theorem pq_t1_s (pk : Nat → Int32) (le : Nat) (d : pq_D) : (pq_t1 pk le d).1 = d.1 + 1 ∧ (pq_t1 pk le d).2.1 = d.2.1 * 256 ∧ (pq_t1 pk le d).2.2 < 4294967296 := ⟨rfl, rfl, Nat.mod_lt _ (by decide)⟩
theorem pq_dn_s (pk : Nat → Int32) (le : Nat) {B : Nat} {d : pq_D} (h1 : d.1 ≤ B) (h2 : 256 ≤ d.2.1) (h3 : d.2.1 < 4294967296) (h4 : d.2.2 < 4294967296) : pq_DI (B + 2) (pq_dn pk le d) := by
  unfold pq_dn
  have ⟨a1, a2, a3⟩ := pq_t1_s pk le d
  have ⟨b1, b2, b3⟩ := pq_t1_s pk le (pq_t1 pk le d)
  by_cases c : d.2.1 < 16777216
  · rw [if_pos c]
    by_cases c2 : (pq_t1 pk le d).2.1 < 16777216
    · rw [if_pos c2]; exact ⟨by omega, by omega, by omega, b3⟩
    · rw [if_neg c2]; exact ⟨by omega, by omega, by omega, a3⟩
  · rw [if_neg c]; exact ⟨by omega, by omega, h3, h4⟩
def pq_dv (d : pq_D) (total : Nat) : Nat := if total - 1 < d.2.2 / (d.2.1 / total) then total - 1 else d.2.2 / (d.2.1 / total)
def pq_d0 (d : pq_D) (total start size : Nat) : pq_D := (d.1, d.2.1 / total * size, d.2.2 - d.2.1 / total * start)
def pq_dc (pk : Nat → Int32) (le : Nat) (d : pq_D) (total start size : Nat) : pq_D := pq_dn pk le (pq_d0 d total start size)
theorem pq_dv_lt {d : pq_D} {total : Nat} (h : 1 ≤ total) : pq_dv d total < total := by
  unfold pq_dv
  by_cases c : total - 1 < d.2.2 / (d.2.1 / total)
  · rw [if_pos c]; omega
  · rw [if_neg c]; omega
theorem pq_dv_m {d : pq_D} {total start : Nat} (h : start ≤ pq_dv d total) : d.2.1 / total * start ≤ d.2.2 := by
  have h2 : start ≤ d.2.2 / (d.2.1 / total) := by
    unfold pq_dv at h
    by_cases c : total - 1 < d.2.2 / (d.2.1 / total)
    · rw [if_pos c] at h; omega
    · rw [if_neg c] at h; exact h
  exact Nat.le_trans (Nat.mul_le_mul_left _ h2) (Nat.mul_div_le _ _)
theorem pq_d0_s {B : Nat} {d : pq_D} {total start size : Nat} (h : pq_DI B d) (h0 : 1 ≤ total) (h1 : total ≤ 65536) (h2 : 1 ≤ size) (h3 : size ≤ total) :
    (pq_d0 d total start size).1 ≤ B ∧ 256 ≤ (pq_d0 d total start size).2.1 ∧ (pq_d0 d total start size).2.1 < 4294967296 ∧ (pq_d0 d total start size).2.2 < 4294967296 := by
  obtain ⟨p, r0, r1, cd⟩ := h
  have ⟨a, b⟩ := pq_r r0 h0 h1
  refine ⟨p, ?_, ?_, Nat.lt_of_le_of_lt (Nat.sub_le _ _) cd⟩
  · show 256 ≤ d.2.1 / total * size
    have m2 : d.2.1 / total * 1 ≤ d.2.1 / total * size := Nat.mul_le_mul_left _ h2
    omega
  · show d.2.1 / total * size < _
    have m1 : d.2.1 / total * size ≤ d.2.1 / total * total := Nat.mul_le_mul_left _ h3
    omega
theorem pq_dc_s (pk : Nat → Int32) (le : Nat) {B : Nat} {d : pq_D} {total start size : Nat} (h : pq_DI B d) (h0 : 1 ≤ total) (h1 : total ≤ 65536) (h2 : 1 ≤ size) (h3 : size ≤ total) : pq_DI (B + 2) (pq_dc pk le d total start size) := by
  have ⟨a, b, c, e⟩ := pq_d0_s (start := start) h h0 h1 h2 h3
  exact pq_dn_s pk le (d := pq_d0 d total start size) a b c e
/-- a pair: the index of the pulses, and the decoder behind it -/
def pq_dp (pk : Nat → Int32) (le : Nat) (d : pq_D) (k : Nat) : Nat × pq_D :=
  if pq_V 8 k ≤ 65536 then (pq_dv d (pq_V 8 k), pq_dc pk le d (pq_V 8 k) (pq_dv d (pq_V 8 k)) 1)
  else
    (if pq_V 8 k - 1 < pq_dv d ((pq_V 8 k - 1) / 2 ^ pq_ap k + 1) * 2 ^ pq_ap k + pq_dv (pq_dc pk le d ((pq_V 8 k - 1) / 2 ^ pq_ap k + 1) (pq_dv d ((pq_V 8 k - 1) / 2 ^ pq_ap k + 1)) 1) (2 ^ pq_ap k) then pq_V 8 k - 1
      else pq_dv d ((pq_V 8 k - 1) / 2 ^ pq_ap k + 1) * 2 ^ pq_ap k + pq_dv (pq_dc pk le d ((pq_V 8 k - 1) / 2 ^ pq_ap k + 1) (pq_dv d ((pq_V 8 k - 1) / 2 ^ pq_ap k + 1)) 1) (2 ^ pq_ap k),
     pq_dc pk le (pq_dc pk le d ((pq_V 8 k - 1) / 2 ^ pq_ap k + 1) (pq_dv d ((pq_V 8 k - 1) / 2 ^ pq_ap k + 1)) 1) (2 ^ pq_ap k) (pq_dv (pq_dc pk le d ((pq_V 8 k - 1) / 2 ^ pq_ap k + 1) (pq_dv d ((pq_V 8 k - 1) / 2 ^ pq_ap k + 1)) 1) (2 ^ pq_ap k)) 1)
theorem pq_min {V X : Nat} (h : 1 ≤ V) : (if V - 1 < X then V - 1 else X) < V := by
  split <;> omega
theorem pq_dp_s (pk : Nat → Int32) (le : Nat) {B : Nat} {d : pq_D} {k : Nat} (h : pq_DI B d) (hk : k ≤ 16) : (pq_dp pk le d k).1 < pq_V 8 k ∧ pq_DI (B + 4) (pq_dp pk le d k).2 := by
  have hv := pq_Vpos k (by omega)
  unfold pq_dp
  by_cases c : pq_V 8 k ≤ 65536
  · rw [if_pos c]
    exact ⟨pq_dv_lt hv, pq_DI_le (pq_dc_s pk le h hv c (by omega) hv) (by omega)⟩
  · rw [if_neg c]
    have ⟨a1, a2, a3, _⟩ := pq_ap_s k (by omega) (by omega)
    have ⟨p1, p2⟩ := pq_ap_p _ a2
    refine ⟨?_, ?_⟩
    · exact pq_min hv
    · exact pq_dc_s pk le (pq_dc_s pk le h (Nat.succ_pos _) a3 (Nat.le_refl _) (Nat.succ_pos _)) p1 (Nat.le_trans p2 (by decide)) (Nat.le_refl _) p1
end
section
/-! the search of the pulses -/
def pq_bs (a : Nat → Int64) (w : Nat → Nat) (cc ss : Int64) : Nat → Nat × Int64 × Int64
  | 0 => (0, 0, 1)
  | j + 1 => if j = 0 ∨ (pq_bs a w cc ss j).2.1 * (ss + (2 * nI (w j)).toInt64 + 1) < (cc + a j) * (cc + a j) * (pq_bs a w cc ss j).2.2 then (j, (cc + a j) * (cc + a j), ss + (2 * nI (w j)).toInt64 + 1) else pq_bs a w cc ss j
theorem pq_bs_lt (a : Nat → Int64) (w : Nat → Nat) (cc ss : Int64) : ∀ j, j ≤ 8 → (pq_bs a w cc ss j).1 < 8 := by
  intro j
  induction j with
  | zero => intro _; exact (by decide : 0 < 8)
  | succ j ih =>
    intro h
    unfold pq_bs
    split
    · show j < 8; omega
    · exact ih (by omega)
def pq_up (w : Nat → Nat) (c : Nat) : Nat → Nat := fun j => if j = c then w j + 1 else w j
theorem pq_up_o {w : Nat → Nat} {c : Nat} : ∀ n, n ≤ c → pq_S (pq_up w c) n = pq_S w n := by
  intro n h
  apply pq_S_ext
  intro j hj
  exact if_neg (by omega)
theorem pq_up_s {w : Nat → Nat} {c : Nat} : ∀ n, c < n → pq_S (pq_up w c) n = pq_S w n + 1 := by
  intro n
  induction n with
  | zero => intro h; omega
  | succ n ih =>
    intro h
    show pq_S (pq_up w c) n + pq_up w c n = pq_S w n + w n + 1
    by_cases e : n = c
    · rw [pq_up_o n (by omega)]
      have : pq_up w c n = w n + 1 := if_pos e
      omega
    · rw [ih (by omega)]
      have : pq_up w c n = w n := if_neg e
      omega
def pq_sr (a : Nat → Int64) : Nat → (Nat → Nat) × Int64 × Int64
  | 0 => (fun _ => 0, 0, 0)
  | i + 1 => (pq_up (pq_sr a i).1 (pq_bs a (pq_sr a i).1 (pq_sr a i).2.1 (pq_sr a i).2.2 8).1, (pq_sr a i).2.1 + a (pq_bs a (pq_sr a i).1 (pq_sr a i).2.1 (pq_sr a i).2.2 8).1, (pq_sr a i).2.2 + (2 * nI ((pq_sr a i).1 (pq_bs a (pq_sr a i).1 (pq_sr a i).2.1 (pq_sr a i).2.2 8).1) + 1).toInt64)
theorem pq_sr_sum (a : Nat → Int64) : ∀ i, pq_S (pq_sr a i).1 8 = i := by
  intro i
  induction i with
  | zero => rfl
  | succ i ih =>
    show pq_S (pq_up (pq_sr a i).1 _) 8 = i + 1
    rw [pq_up_s 8 (pq_bs_lt _ _ _ _ 8 (by omega)), ih]
theorem pq_sr_le (a : Nat → Int64) (i : Nat) {j : Nat} (hj : j < 8) : (pq_sr a i).1 j ≤ i := by
  have h := pq_S_ge (pq_sr a i).1 hj
  rw [pq_sr_sum] at h
  exact h
def pq_ab (co : Nat → Int32) (b j : Nat) : Int64 := lN (pq_mg (co (8 * b + j)))
def pq_w (co : Nat → Int32) (b k : Nat) : Nat → Nat := (pq_sr (pq_ab co b) k).1
def pq_yv (co : Nat → Int32) (b k j : Nat) : Int32 := if co (8 * b + j) < 0 then -nI (pq_w co b k j) else nI (pq_w co b k j)
theorem pq_yv_mg (co : Nat → Int32) (b : Nat) {k j : Nat} (hk : k ≤ 16) (hj : j < 8) : pq_mg (pq_yv co b k j) = pq_w co b k j := by
  have h : pq_w co b k j ≤ k := pq_sr_le _ _ hj
  unfold pq_yv
  split
  · exact pq_mg_neg (by omega)
  · exact pq_mg_nI (by omega)
theorem pq_M_8 (a : Nat → Int32) : pq_M a 0 8 = pq_S (fun j => pq_mg (a j)) 8 := by
  simp only [pq_M, pq_S, Nat.zero_add, Nat.reduceAdd]
  omega
theorem pq_yv_M (co : Nat → Int32) (b : Nat) {k : Nat} (hk : k ≤ 16) : pq_M (pq_yv co b k) 0 8 = k := by
  rw [pq_M_8, pq_S_ext (g := pq_w co b k) 8 (fun j hj => pq_yv_mg co b hk hj)]
  exact pq_sr_sum _ k
/-! the state's ranges -/
def pq_HK (pc : Nat → Int32) : Prop := ∀ b, b < 4 → ∃ k, 1 ≤ k ∧ k ≤ 16 ∧ pc b = nI k
def pq_HC (co : Nat → Int32) : Prop := ∀ j, j < 32 → pq_mg (co j) ≤ 32767
def pq_HQ (q : Nat → Int32) : Prop := ∀ b, b < 4 → ∃ x, x ≤ 33 ∧ q b = nI x
def pq_k (pc : Nat → Int32) (b : Nat) : Nat := (pc b).toNatClampNeg
theorem pq_k_s {pc : Nat → Int32} (h : pq_HK pc) {b : Nat} (hb : b < 4) : 1 ≤ pq_k pc b ∧ pq_k pc b ≤ 16 ∧ pc b = nI (pq_k pc b) := by
  obtain ⟨k, h1, h2, e⟩ := h b hb
  unfold pq_k
  rw [e, nI_clamp (by omega)]
  exact ⟨h1, h2, rfl⟩
theorem pq_q_s {q : Nat → Int32} (h : pq_HQ q) {b : Nat} (hb : b < 4) : pq_k q b ≤ 33 ∧ q b = nI (pq_k q b) := by
  obtain ⟨k, h2, e⟩ := h b hb
  unfold pq_k
  rw [e, nI_clamp (by omega)]
  exact ⟨h2, rfl⟩
def pq_e (co : Nat → Int32) (b : Nat) : Nat := pq_S (fun j => pq_mg (co (8 * b + j)) * pq_mg (co (8 * b + j))) 8
theorem pq_e_lt {co : Nat → Int32} (h : pq_HC co) {b : Nat} (hb : b < 4) : pq_e co b < 8589934592 := by
  have h1 : pq_e co b ≤ 8 * (32767 * 32767) := by
    apply pq_S_le
    intro j hj
    have h2 := h (8 * b + j) (by omega)
    exact Nat.mul_le_mul h2 h2
  omega
def pq_q (co : Nat → Int32) (b : Nat) : Nat := pq_bl (pq_e co b)
theorem pq_q_le {co : Nat → Int32} (h : pq_HC co) {b : Nat} (hb : b < 4) : pq_q co b ≤ 33 := pq_bl_b (pq_e_lt h hb)
def pq_id (co pc : Nat → Int32) (b : Nat) : Nat := pq_ix (pq_yv co b (pq_k pc b)) 0 8 (pq_k pc b)
theorem pq_id_lt (co : Nat → Int32) {pc : Nat → Int32} (h : pq_HK pc) {b : Nat} (hb : b < 4) : pq_id co pc b < pq_V 8 (pq_k pc b) := by
  have ⟨_, k2, _⟩ := pq_k_s h hb
  exact pq_ix_lt _ 8 0 _ (by omega) k2 (pq_yv_M co b k2)
/-! a frame -/
def pq_sb (co eq : Nat → Int32) (b : Nat) : Nat := pq_sm (pq_q co b) ((3 * pq_k eq b + 2) / 4)
theorem pq_sb_le {co eq : Nat → Int32} (hc : pq_HC co) (hq : pq_HQ eq) {b : Nat} (hb : b < 4) : pq_sb co eq b < 67 := by
  have h1 := pq_q_le hc hb
  have ⟨h2, _⟩ := pq_q_s hq hb
  exact pq_sm_le h1 (by omega)
def pq_ee (co eq : Nat → Int32) (b : Nat) (e : pq_E) : pq_E := pq_cd e (pq_st (pq_sb co eq b)) (pq_f (pq_sb co eq b)) 150
def pq_eb (pk co pc eq : Nat → Int32) : Nat → pq_E
  | 0 => (0, 4294967295, 0, 1, 0, pk)
  | b + 1 => pq_cp (pq_ee co eq b (pq_eb pk co pc eq b)) (pq_k pc b) (pq_id co pc b)
theorem pq_ee_s {co eq : Nat → Int32} (hc : pq_HC co) (hq : pq_HQ eq) {b : Nat} (hb : b < 4) {B : Nat} {e : pq_E} (h : pq_EI B e) : pq_EI (B + 2) (pq_ee co eq b e) := by
  have h1 := pq_sb_le hc hq hb
  have ⟨a1, a2, _⟩ := pq_f_s _ h1
  exact pq_cd_s h (by omega) (by omega) a2 a1
theorem pq_eb_s {pk co pc eq : Nat → Int32} (hp : pq_B pk) (hc : pq_HC co) (hk : pq_HK pc) (hq : pq_HQ eq) : ∀ b, b ≤ 4 → pq_EI (1 + 6 * b) (pq_eb pk co pc eq b) := by
  intro b
  induction b with
  | zero => intro _; exact ⟨⟨(by decide : 0 < 256), (by decide : 1 ≤ 1 + 6 * 0), (by decide : 0 ≤ 64), hp⟩, (by decide : 0 + 4294967295 ≤ 8589934592), (by decide : 16777216 ≤ 4294967295), (by decide : 4294967295 < 4294967296)⟩
  | succ b ih =>
    intro hb
    have h1 := pq_ee_s hc hq (b := b) (by omega) (ih (by omega))
    have ⟨_, k2, _⟩ := pq_k_s hk (b := b) (by omega)
    exact pq_EI_le (pq_cp_s h1 k2 (pq_id_lt co hk (by omega))) (by omega)
def pq_clr (pk : Nat → Int32) : Nat → (Nat → Int32)
  | 0 => pk
  | i + 1 => upd (pq_clr pk i) i 0
theorem pq_clr_B {pk : Nat → Int32} (h : pq_B pk) : ∀ i, pq_B (pq_clr pk i) := by
  intro i
  induction i with
  | zero => exact h
  | succ i ih => exact pq_B_u ih (b := 0) (by decide)
def pq_fl : Nat → pq_E → pq_E
  | 0, e => e
  | i + 1, e => pq_fl i (pq_sh e)
theorem pq_fl_w : ∀ i (e : pq_E) (B : Nat), pq_EW B e → pq_EW (B + i) (pq_fl i e) := by
  intro i
  induction i with
  | zero => intro e B h; exact h
  | succ i ih =>
    intro e B h
    have := ih (pq_sh e) (B + 1) (pq_sh_w h)
    exact pq_EW_le this (by omega)
/-! a frame back -/
def pq_ds (d : pq_D) : Nat := pq_sy (pq_dv d 150)
def pq_de (pk : Nat → Int32) (le : Nat) (d : pq_D) : pq_D := pq_dc pk le d 150 (pq_st (pq_ds d)) (pq_f (pq_ds d))
def pq_d5 (pk : Nat → Int32) (le : Nat) : Nat → pq_D
  | 0 => (0, 4294967295, 0)
  | i + 1 => pq_tk pk le (pq_d5 pk le i)
def pq_db (pk : Nat → Int32) (le : Nat) (pc : Nat → Int32) : Nat → pq_D
  | 0 => pq_d5 pk le 5
  | b + 1 => (pq_dp pk le (pq_de pk le (pq_db pk le pc b)) (pq_k pc b)).2
def pq_xi (pk : Nat → Int32) (le : Nat) (pc : Nat → Int32) (b : Nat) : Nat := (pq_dp pk le (pq_de pk le (pq_db pk le pc b)) (pq_k pc b)).1
theorem pq_ds_s (d : pq_D) : pq_st (pq_ds d) ≤ pq_dv d 150 ∧ pq_dv d 150 < pq_st (pq_ds d + 1) ∧ pq_ds d ≤ 66 := pq_sy_s (pq_dv_lt (by decide))
theorem pq_de_s (pk : Nat → Int32) (le : Nat) {B : Nat} {d : pq_D} (h : pq_DI B d) : pq_DI (B + 2) (pq_de pk le d) := by
  have ⟨_, _, h1⟩ := pq_ds_s d
  have ⟨a1, a2, _⟩ := pq_f_s _ (show pq_ds d < 67 by omega)
  exact pq_dc_s pk le h (by omega) (by omega) a2 (by omega)
theorem pq_d5_s (pk : Nat → Int32) (le : Nat) : ∀ i, (pq_d5 pk le i).1 = i ∧ (pq_d5 pk le i).2.1 = 4294967295 ∧ (pq_d5 pk le i).2.2 < 4294967296 := by
  intro i
  induction i with
  | zero => exact ⟨rfl, rfl, (by decide : 0 < 4294967296)⟩
  | succ i ih => exact ⟨congrArg (· + 1) ih.1, ih.2.1, Nat.mod_lt _ (by decide)⟩
theorem pq_db_s (pk : Nat → Int32) (le : Nat) {pc : Nat → Int32} (hk : pq_HK pc) : ∀ b, b ≤ 4 → pq_DI (5 + 6 * b) (pq_db pk le pc b) := by
  intro b
  induction b with
  | zero =>
    intro _
    have ⟨a, c, d⟩ := pq_d5_s pk le 5
    show pq_DI _ (pq_d5 pk le 5)
    exact ⟨by omega, by omega, by omega, d⟩
  | succ b ih =>
    intro hb
    have ⟨_, k2, _⟩ := pq_k_s hk (b := b) (by omega)
    exact pq_DI_le (pq_dp_s pk le (pq_de_s pk le (ih (by omega))) k2).2 (by omega)
theorem pq_xi_lt (pk : Nat → Int32) (le : Nat) {pc : Nat → Int32} (hk : pq_HK pc) {b : Nat} (hb : b < 4) : pq_xi pk le pc b < pq_V 8 (pq_k pc b) := by
  have ⟨_, k2, _⟩ := pq_k_s hk hb
  exact (pq_dp_s pk le (pq_de_s pk le (pq_db_s pk le hk b (by omega))) k2).1
def pq_cl (x lo hi : Int32) : Int32 := if x < lo then lo else if hi < x then hi else x
theorem pq_cl_s (x : Int32) : ∃ q, q ≤ 33 ∧ pq_cl x 0 33 = nI q := by
  unfold pq_cl
  by_cases a : x < 0
  · rw [if_pos a]; exact ⟨0, by decide, rfl⟩
  · rw [if_neg a]
    by_cases b : 33 < x
    · rw [if_pos b]; exact ⟨33, by decide, rfl⟩
    · rw [if_neg b]
      obtain ⟨j, hj, e⟩ := nI_of2 (M := 33) (n := 33) (by decide) a (Int32.not_lt.mp b)
      exact ⟨j, hj, e⟩
theorem pq_cl_1 (x : Int32) : ∃ k, 1 ≤ k ∧ k ≤ 16 ∧ pq_cl x 1 16 = nI k := by
  unfold pq_cl
  by_cases a : x < 1
  · rw [if_pos a]; exact ⟨1, by decide, by decide, rfl⟩
  · rw [if_neg a]
    by_cases b : 16 < x
    · rw [if_pos b]; exact ⟨16, by decide, by decide, rfl⟩
    · rw [if_neg b]
      have a0 : ¬ x < 0 := fun z => a (Int32.lt_trans z (by decide))
      obtain ⟨j, hj, e⟩ := nI_of2 (M := 16) (n := 16) (by decide) a0 (Int32.not_lt.mp b)
      refine ⟨j, ?_, hj, e⟩
      by_cases z : j = 0
      · subst z; subst e; exact absurd (by decide) a
      · omega
theorem pq_cl_m (x : Int32) {c : Nat} {C : Int32} (hc : c < 2 ^ 31) (hC : C = nI c) : pq_mg (pq_cl x (-C) C) ≤ c := by
  subst hC
  have e : (-nI c).toInt = -(c : Int) := sb_negT hc
  have e2 : (nI c).toInt = (c : Int) := nI_toInt hc
  unfold pq_cl
  by_cases a : x < -nI c
  · rw [if_pos a, pq_mg_neg hc]; exact Nat.le_refl _
  · rw [if_neg a]
    by_cases b : nI c < x
    · rw [if_pos b, pq_mg_nI hc]; exact Nat.le_refl _
    · rw [if_neg b]
      rw [Int32.lt_iff_toInt_lt] at a b
      unfold pq_mg
      omega
def pq_z (n k r : Nat) : Nat := pq_S (fun j => pq_mg (pq_y n k r j) * pq_mg (pq_y n k r j)) 8
def pq_sc (y : Int32) (q sq : Nat) : Int32 :=
  if q = 0 ∨ y = 0 then 0 else if y < 0 then -nI (pq_rt (2 ^ (q - 1) * (pq_mg y * pq_mg y) / sq)) else nI (pq_rt (2 ^ (q - 1) * (pq_mg y * pq_mg y) / sq))
end
section
/-! numbers as they are printed -/
theorem pq_sh64 : ∀ b, b < 64 → (((nI b).toInt64 &&& 63).toBitVec.smod 64).toNat = b := by decide +kernel
theorem pq_p2 : ∀ b, b ≤ 8 → (1 : Int32) <<< (nI b &&& 31) = nI (2 ^ b) := by decide +kernel
theorem pq_p2m : ∀ b, b ≤ 8 → (nI (2 ^ b) - 1).toBitVec.toNat = 2 ^ b - 1 := by decide +kernel
theorem pq_f32 : ∀ s, s ≤ 8 → (32 : Int32) >>> (((nI s + 1) / 2) &&& 31) = nI (pq_f s) := by decide +kernel
theorem pq_lz {a : Nat} (ha : a < 2 ^ 63) : lN a ≤ 0 ↔ a = 0 := by
  have := pk_lLE ha (b := 0) (by decide)
  rw [show (0 : Int64) = lN 0 from rfl, this]
  omega
theorem pq_l1 {a : Nat} (h1 : 1 ≤ a) (ha : a < 2 ^ 63) : (1 : Int64) ≤ lN a := (pk_lLE (a := 1) (by decide) ha).mpr h1
theorem pq_ln0 {a : Nat} (h1 : 1 ≤ a) (ha : a < 2 ^ 63) : ¬ lN a = 0 := fun z => by
  have := (pk_lEQ ha (b := 0) (by decide)).mp z
  omega
theorem pq_i17 (n k : Nat) : nI n * 17 + nI k = nI (n * 17 + k) := by
  rw [show (17 : Int32) = nI 17 from rfl, pk_mul, nI_add]
theorem pq_i8 (b j : Nat) : nI b * 8 + nI j = nI (8 * b + j) := by
  rw [show (8 : Int32) = nI 8 from rfl, pk_mul, nI_add, Nat.mul_comm]
theorem pq_8i (b j : Nat) : 8 * nI b + nI j = nI (8 * b + j) := by
  rw [show (8 : Int32) = nI 8 from rfl, pk_mul, nI_add]
theorem pq_b8 (b : Nat) : nI b * 8 = nI (8 * b) := by
  rw [show (8 : Int32) = nI 8 from rfl, pk_mul, Nat.mul_comm]
theorem pq_2i (a : Nat) : 2 * nI a = nI (2 * a) := by
  rw [show (2 : Int32) = nI 2 from rfl, pk_mul]
theorem pq_0i (a : Nat) : 0 + nI a = nI a := by
  rw [show (0 : Int32) = nI 0 from rfl, nI_add, Nat.zero_add]
def pq_tb (t : Nat → Int32) : Prop := ∀ j, j < 153 → t j = nI (pq_t j)
theorem pq_tb_V {t : Nat → Int32} (h : pq_tb t) {n k : Nat} (hn : n ≤ 8) (hk : k ≤ 16) : t (n * 17 + k) = nI (pq_V n k) := h _ (by omega)
theorem pq_nlt0 {x : Int32} (h : ¬ x < 0) : 0 ≤ x := Int32.not_lt.mp h
theorem pq_nle0 {x : Int32} (h : x < 0) : ¬ 0 ≤ x := Int32.not_le.mpr h
section PQS
variable {x_length x_cache x_pending x_readPosition : Int32} {x_low x_encoderRange x_decoderRange x_code x_decoderStep : Int64} {x_pulseCounts x_coefs x_energies x_pulses x_decoded x_vec x_sizes x_packet : Nat → Int32}
theorem px_clamp {post : Int32 → Prop} {v lo hi : Int32} (h : post (pq_cl v lo hi)) : wpX_clamp post () v lo hi := by
  unfold pq_cl at h
  by_cases a : v < lo
  · rw [if_pos a] at h
    exact br_f (Int32.not_le.mpr a) h
  · rw [if_neg a] at h
    refine br_t (Int32.not_lt.mp a) ?_
    by_cases b : hi < v
    · rw [if_pos b] at h; exact br_f (Int32.not_le.mpr b) h
    · rw [if_neg b] at h; exact br_t (Int32.not_lt.mp b) h
theorem px_mag {post : Int32 → Prop} {v : Int32} (h : post (nI (pq_mg v))) : wpX_magnitude post () v := by
  by_cases c : v < 0
  · exact br_f (pq_nle0 c) (by rw [pq_mg_n c]; exact h)
  · exact br_t (pq_nlt0 c) (by rw [pq_mg_p c]; exact h)
theorem px_bl2 {post : Int32 → Prop} {M : Nat} (hM : M < 2 ^ 40) (h : post (nI (pq_bl M))) : ∀ d b, b + d = pq_bl M → wX_bitLength_2 post (lN M) (d + 1) (nI b) := by
  have hB := pq_bl_b hM
  intro d
  induction d with
  | zero =>
    intro b hb
    have e : lN M >>> ((nI b).toInt64 &&& 63) = lN (M / 2 ^ b) := pf_shr (pq_sh64 b (by omega)) (by omega)
    have z : lN M >>> ((nI b).toInt64 &&& 63) ≤ 0 := by
      have h2 := pq_bl_lt M
      have h3 : b = pq_bl M := by omega
      rw [← h3] at h2
      rw [e, pq_lz (Nat.lt_of_le_of_lt (Nat.div_le_self _ _) (by omega))]
      exact Nat.div_eq_of_lt h2
    have h4 : post (nI b) := by rw [show b = pq_bl M by omega]; exact h
    exact br_f (nI_ge (b := 63) (by omega) (by decide)) (br_t z h4)
  | succ d ih =>
    intro b hb
    have e : lN M >>> ((nI b).toInt64 &&& 63) = lN (M / 2 ^ b) := pf_shr (pq_sh64 b (by omega)) (by omega)
    have z : ¬ lN M >>> ((nI b).toInt64 &&& 63) ≤ 0 := by
      have h2 := pq_bl_le (M := M) (j := b) (by omega)
      have h3 := Nat.div_pos h2 (Nat.two_pow_pos b)
      rw [e, pq_lz (Nat.lt_of_le_of_lt (Nat.div_le_self _ _) (by omega))]
      omega
    exact br_f (nI_ge (b := 63) (by omega) (by decide)) (br_f z (nm_r (nI_1 b) (ih (b + 1) (by omega))))
theorem px_bl {post : Int32 → Prop} {M : Nat} {p0 : Int64} (e0 : p0 = lN M) (hM : M < 2 ^ 40) (h : post (nI (pq_bl M))) : wpX_bitLength post () p0 := by
  subst e0
  exact ⟨pq_bl M + 1, px_bl2 hM h (pq_bl M) 0 (by omega)⟩
theorem px_sq6 {post : Int32 → Prop} {M : Nat} (hM : M < 2 ^ 42) (h : post (nI (pq_rt M))) : ∀ b R, b ≤ 21 → R * R ≤ M → M < (R + 2 ^ b) * (R + 2 ^ b) → R + 2 ^ b ≤ 2 ^ 21 → wX_squareRoot_6 post (lN M) (b + 1) (lN R) (nI b + (-1)) := by
  intro b
  induction b with
  | zero =>
    intro R _ h1 h2 _
    have e : R = pq_rt M := pq_rt_u h1 h2
    refine br_t (by decide) ?_
    rw [lN_i, e]
    exact h
  | succ b ih =>
    intro R hb h1 h2 h3
    rw [pk_m1]
    have p : 2 ^ (b + 1) = 2 ^ b + 2 ^ b := by rw [Nat.pow_succ]; omega
    have pp : 1 ≤ 2 ^ b := Nat.one_le_two_pow
    have e : lN R + (1 : Int64) <<< ((nI b).toInt64 &&& 63) = lN (R + 2 ^ b) := by
      show lN R + lN 1 <<< ((nI b).toInt64 &&& 63) = _
      rw [wb_shl 1 (by omega), Nat.one_mul, lN_add]
    have q : (R + 2 ^ b) * (R + 2 ^ b) < 2 ^ 63 := by
      have : (R + 2 ^ b) * (R + 2 ^ b) ≤ 2 ^ 21 * 2 ^ 21 := Nat.mul_le_mul (by omega) (by omega)
      omega
    refine br_f (nI_pos (by omega)) (nm_r e ?_)
    by_cases c : M < (R + 2 ^ b) * (R + 2 ^ b)
    · refine br_t (by rw [lN_mul, pk_lLT (by omega) q]; exact c) (nm_e ?_)
      exact ih R (by omega) h1 c (by omega)
    · refine br_f (by rw [lN_mul, pk_lLT (by omega) q]; exact c) (nm_e ?_)
      exact ih (R + 2 ^ b) (by omega) (by omega) (by rw [Nat.add_assoc, ← p]; exact h2) (by omega)
theorem px_sq {post : Int32 → Prop} {M : Nat} {p0 : Int64} (e0 : p0 = lN M) (hM : M < 2 ^ 42) (h : post (nI (pq_rt M))) : wpX_squareRoot post () p0 := by
  subst e0
  exact ⟨22, px_sq6 hM h 21 0 (by omega) (by omega) (by omega) (by omega)⟩
theorem px_quo {post : Int64 → Prop} {a b : Nat} {p0 p1 : Int64} (e0 : p0 = lN a) (e1 : p1 = lN b) (ha : a < 2 ^ 63) (h1 : 1 ≤ b) (hb : b < 2 ^ 63) (h : post (lN (a / b))) : wpX_quotient post () p0 p1 := by
  subst e0 e1
  exact br_t (pq_l1 h1 hb) ⟨pq_ln0 h1 hb, by rw [pk_lDiv ha h1 hb]; exact h⟩
theorem px_size {post : Int32 → Prop} {n k : Nat} {p0 p1 : Int32} (ht : pq_tb x_sizes) (hn : n ≤ 8) (hk : k ≤ 16) (e0 : p0 = nI n) (e1 : p1 = nI k) (h : post (nI (pq_V n k))) : wpX_sizeOf post (x_length, x_low, x_encoderRange, x_cache, x_pending, x_readPosition, x_decoderRange, x_code, x_decoderStep, x_pulseCounts, x_coefs, x_energies, x_pulses, x_decoded, x_vec, x_sizes, x_packet) p0 p1 := by
  subst e0 e1
  refine br_f (nI_pos (by omega)) (br_f (nI_nlt (a := 8) hn (by decide)) (br_f (nI_pos (by omega)) (br_t (nI_le (b := 16) hk (by decide)) ⟨pk_in (n * 17 + k) 153 (by omega) (pq_i17 n k), ?_⟩)))
  rw [pk_cl (n * 17 + k) (pq_i17 n k), pq_tb_V ht hn hk]
  exact h
theorem px_cwf {post : Int32 → Prop} {m n k : Nat} {p0 p1 p2 : Int32} (ht : pq_tb x_sizes) (hn : n < 8) (hm : m ≤ k) (hk : k ≤ 16) (e0 : p0 = nI m) (e1 : p1 = nI (n + 1)) (e2 : p2 = nI k) (h : post (nI ((if m = 0 then 1 else 2) * pq_V n (k - m)))) : wpX_countWithFirst post (x_length, x_low, x_encoderRange, x_cache, x_pending, x_readPosition, x_decoderRange, x_code, x_decoderStep, x_pulseCounts, x_coefs, x_energies, x_pulses, x_decoded, x_vec, x_sizes, x_packet) p0 p1 p2 := by
  subst e0 e1 e2
  unfold wpX_countWithFirst
  dsimp only
  refine px_size (n := n) (k := k - m) ht (by omega) (by omega) (nI_pred n) (pk_sub hm) ?_
  by_cases z : m = 0
  · rw [if_pos z, Nat.one_mul] at h
    exact br_t (by rw [z]; rfl) h
  · rw [if_neg z] at h
    exact br_f (nI_ne0 (by omega) (by omega)) (by rw [pq_2i]; exact h)
theorem px_sym {post : Int32 → Prop} {s : Nat} {p0 : Int32} (e0 : p0 = nI s) (hs : s < 2 ^ 31) (h : post (nI (pq_f s))) : wpX_symbolSize post () p0 := by
  subst e0
  by_cases c : s ≤ 8
  · exact br_f (nI_nlt (a := 8) c (by decide)) ⟨by decide, by rw [pq_f32 s c]; exact h⟩
  · have e : pq_f s = 1 := if_neg c
    rw [e] at h
    exact br_t (nI_lt (a := 8) (by omega) hs) h
theorem px_low {post : Int32 → Prop} {k : Nat} {p0 : Int32} (hk : k ≤ 16) (e0 : p0 = nI (pq_V 8 k)) (h : post (nI (pq_ap k))) : wpX_lowBits post () p0 := by
  subst e0
  have hv := pq_Vle (n := 8) (k := k) (by omega) hk
  have hp := pq_Vpos k (by omega)
  by_cases c : pq_V 8 k ≤ 65536
  · have e : pq_ap k = 0 := if_pos c
    rw [e] at h
    exact br_f (nI_nlt (a := 65536) c (by decide)) h
  · have ⟨_, _, _, a4⟩ := pq_ap_s k (by omega) (by omega)
    refine br_t (nI_lt (a := 65536) (by omega) (by omega)) ?_
    have e : (nI (pq_V 8 k) - 1).toInt64 = lN (pq_V 8 k - 1) := by
      rw [show (1 : Int32) = nI 1 from rfl, pk_sub hp, nI_l (by omega)]
    refine px_bl e (by omega) ?_
    rw [a4, show (16 : Int32) = nI 16 from rfl, pk_sub (by omega), Nat.add_sub_cancel]
    exact h
end PQS
end
section
/-! the range encoder's walks -/
theorem pq_rem256 {a : Nat} (h : a < 2 ^ 31) : nI a - nI a / 256 * 256 = nI (a % 256) := pk_rem (d := 256) h (by decide) (by decide)
theorem pq_and255 {a : Nat} (h : a < 2 ^ 31) : nI a &&& 255 = nI (a % 256) := pk_andN (n := a) (by omega) 8 (by decide)
theorem pq_l24 {a : Nat} (h : a < 2 ^ 62) : ((lN a).toUInt64 >>> ((24 : Int32).toInt64.toUInt64 &&& Int64.toUInt64 63)).toInt64 = lN (a / 16777216) := pf_ushr (d := 24) (by decide) h
theorem pq_l32 {a : Nat} (h : a < 2 ^ 62) : ((lN a).toUInt64 >>> ((32 : Int32).toInt64.toUInt64 &&& Int64.toUInt64 63)).toInt64 = lN (a / 4294967296) := pf_ushr (d := 32) (by decide) h
theorem pq_la255 {a : Nat} (h : a < 2 ^ 64) : lN a &&& 255 = lN (a % 256) := g_mask (s := 8) (p := 256) (by decide) (by decide) h
theorem pq_la24 {a : Nat} (h : a < 2 ^ 64) : lN a &&& 16777215 = lN (a % 16777216) := g_mask (s := 24) (p := 16777216) (by decide) (by decide) h
theorem pq_la32 {a : Nat} (h : a < 2 ^ 64) : lN a &&& 4294967295 = lN (a % 4294967296) := g_mask (s := 32) (p := 4294967296) (by decide) (by decide) h
theorem pq_ld24 {a : Nat} (h : a < 2 ^ 63) : lN a / 16777216 = lN (a / 16777216) := pk_lDiv (b := 16777216) h (by decide) (by decide)
theorem pq_ld32 {a : Nat} (h : a < 2 ^ 63) : lN a / 4294967296 = lN (a / 4294967296) := pk_lDiv (b := 4294967296) h (by decide) (by decide)
theorem pq_lr256 {a : Nat} (h : a < 2 ^ 63) : lN a - lN a / 256 * 256 = lN (a % 256) := pk_lRem (b := 256) h (by decide) (by decide)
theorem pq_lr24 {a : Nat} (h : a < 2 ^ 63) : lN a - lN a / 16777216 * 16777216 = lN (a % 16777216) := pk_lRem (b := 16777216) h (by decide) (by decide)
theorem pq_lr32 {a : Nat} (h : a < 2 ^ 63) : lN a - lN a / 4294967296 * 4294967296 = lN (a % 4294967296) := pk_lRem (b := 4294967296) h (by decide) (by decide)
theorem pq_lm256 (a : Nat) : lN a * 256 = lN (a * 256) := lN_mul a 256
section PQC
variable {x_length x_cache x_pending x_readPosition : Int32} {x_low x_encoderRange x_decoderRange x_code x_decoderStep : Int64} {x_pulseCounts x_coefs x_energies x_pulses x_decoded x_vec x_sizes x_packet : Nat → Int32}
theorem px_emit {post : St2 → Prop} {le x : Nat} {pk : Nat → Int32} {p0 : Int32} (e0 : p0 = nI x) (hl : le ≤ 64) (h : post (nI (pq_em x (le, pk)).1, x_low, x_encoderRange, x_cache, x_pending, x_readPosition, x_decoderRange, x_code, x_decoderStep, x_pulseCounts, x_coefs, x_energies, x_pulses, x_decoded, x_vec, x_sizes, (pq_em x (le, pk)).2)) : wpX_emit post (nI le, x_low, x_encoderRange, x_cache, x_pending, x_readPosition, x_decoderRange, x_code, x_decoderStep, x_pulseCounts, x_coefs, x_energies, x_pulses, x_decoded, x_vec, x_sizes, pk) p0 := by
  subst e0
  refine br_f (nI_pos (by omega)) ?_
  by_cases c : le < 64
  · have e : pq_em x (le, pk) = (le + 1, upd pk le (nI x)) := if_pos c
    rw [e] at h
    exact br_f (nI_ge (b := 64) c (by decide)) ⟨vp_in_nI c (by decide), nm_r (e' := upd pk le (nI x)) (by rw [nI_clamp (by omega)]) (nm_r (nI_1 le) h)⟩
  · have e : pq_em x (le, pk) = (le, pk) := if_neg c
    rw [e] at h
    exact br_t (nI_le (a := 64) (by omega) (by omega)) h
theorem px_97 {post : St2 → Prop} {lo pe : Nat} (hl : lo < 2 ^ 62) (h : post (x_length, lN (lo % 16777216 * 256), x_encoderRange, x_cache, nI (pe + 1), x_readPosition, x_decoderRange, x_code, x_decoderStep, x_pulseCounts, x_coefs, x_energies, x_pulses, x_decoded, x_vec, x_sizes, x_packet)) : wX_shiftLow_97 post x_length (lN lo) x_encoderRange x_cache (nI pe) x_readPosition x_decoderRange x_code x_decoderStep x_pulseCounts x_coefs x_energies x_pulses x_decoded x_vec x_sizes x_packet := by
  refine nm_r (nI_1 pe) ⟨by decide, nm_r (e' := lN (lo % 16777216 * 256)) ?_ h⟩
  rw [pq_lr24 (by omega), pq_lm256]
theorem px_48 {post : St2 → Prop} {lo pe c : Nat} (hl : lo < 2 ^ 62) (hp : pe < 2 ^ 30) (hc : c < 2 ^ 30) : ∀ d i (s : Nat × (Nat → Int32)), d = pe - i → i < 2 ^ 30 → s.1 ≤ 64 → post (nI (pq_en ((255 + c) % 256) d s).1, lN (lo % 16777216 * 256), x_encoderRange, nI (lo / 16777216 % 256), nI 1, x_readPosition, x_decoderRange, x_code, x_decoderStep, x_pulseCounts, x_coefs, x_energies, x_pulses, x_decoded, x_vec, x_sizes, (pq_en ((255 + c) % 256) d s).2) →
    wX_shiftLow_48 post (nI c) (d + 1) (nI i) (nI s.1) (lN lo) x_encoderRange x_cache (nI pe) x_readPosition x_decoderRange x_code x_decoderStep x_pulseCounts x_coefs x_energies x_pulses x_decoded x_vec x_sizes s.2 := by
  intro d
  induction d with
  | zero =>
    intro i s hd hi hs h
    refine br_t (nI_le (by omega) (by omega)) ⟨by decide, by decide, nm_r (e' := nI (lo / 16777216 % 256)) ?_ (px_97 (pe := 0) hl h)⟩
    rw [pq_ld24 (by omega), pq_lr256 (Nat.lt_of_le_of_lt (Nat.div_le_self _ _) (by omega)), lN_i]
  | succ d ih =>
    intro i s hd hi hs h
    refine br_f (nI_ge (by omega) (by omega)) ⟨by decide, px_emit (x := (255 + c) % 256) (le := s.1) (pk := s.2) ?_ hs (nm_r (nI_1 i) (ih (i + 1) (pq_em ((255 + c) % 256) s) (by omega) (by omega) ?_ h))⟩
    · rw [show (255 : Int32) + nI c = nI (255 + c) from nI_add 255 c, pq_rem256 (by omega)]
    · unfold pq_em
      split
      · show s.1 + 1 ≤ 64; omega
      · exact hs
theorem pq_sh_t {e : pq_E} (c : e.1 < 4278190080 ∨ 4294967296 ≤ e.1) : pq_sh e = (e.1 % 16777216 * 256, e.2.1, e.1 / 16777216 % 256, 1, pq_en ((255 + e.1 / 4294967296) % 256) (e.2.2.2.1 - 1) (pq_em ((e.2.2.1 + e.1 / 4294967296) % 256) (e.2.2.2.2.1, e.2.2.2.2.2))) := if_pos c
theorem pq_sh_f {e : pq_E} (c : ¬ (e.1 < 4278190080 ∨ 4294967296 ≤ e.1)) : pq_sh e = (e.1 % 16777216 * 256, e.2.1, e.2.2.1, e.2.2.2.1 + 1, e.2.2.2.2.1, e.2.2.2.2.2) := if_neg c
theorem px_22 {post : St2 → Prop} {B : Nat} {e : pq_E} (hw : pq_EW B e) (hB : B < 2 ^ 20) (hl : e.1 < 2 ^ 40) (c : e.1 < 4278190080 ∨ 4294967296 ≤ e.1) (h : post (nI ((pq_sh e)).2.2.2.2.1, lN ((pq_sh e)).1, lN ((pq_sh e)).2.1, nI ((pq_sh e)).2.2.1, nI ((pq_sh e)).2.2.2.1, x_readPosition, x_decoderRange, x_code, x_decoderStep, x_pulseCounts, x_coefs, x_energies, x_pulses, x_decoded, x_vec, x_sizes, ((pq_sh e)).2.2.2.2.2)) : wX_shiftLow_22 post (nI e.2.2.2.2.1) (lN e.1) (lN e.2.1) (nI e.2.2.1) (nI e.2.2.2.1) x_readPosition x_decoderRange x_code x_decoderStep x_pulseCounts x_coefs x_energies x_pulses x_decoded x_vec x_sizes e.2.2.2.2.2 := by
  obtain ⟨h1, h2, h3, h4⟩ := hw
  rw [pq_sh_t c] at h
  have hc : e.1 / 4294967296 < 2 ^ 30 := by omega
  refine ⟨by decide, nm_r (e' := nI (e.1 / 4294967296)) (by rw [pq_ld32 (by omega), lN_i]) ⟨by decide, px_emit (x := (e.2.2.1 + e.1 / 4294967296) % 256) ?_ h3 ⟨e.2.2.2.1 - 1 + 1, px_48 (by omega) (by omega) hc (e.2.2.2.1 - 1) 1 _ rfl (by omega) (pq_em_s (Nat.mod_lt _ (by decide)) h3 h4).1 h⟩⟩⟩
  rw [nI_add, pq_rem256 (by omega)]
theorem px_sh {post : St2 → Prop} {B : Nat} {e : pq_E} (hw : pq_EW B e) (hB : B < 2 ^ 20) (hl : e.1 < 2 ^ 40) (h : post (nI ((pq_sh e)).2.2.2.2.1, lN ((pq_sh e)).1, lN ((pq_sh e)).2.1, nI ((pq_sh e)).2.2.1, nI ((pq_sh e)).2.2.2.1, x_readPosition, x_decoderRange, x_code, x_decoderStep, x_pulseCounts, x_coefs, x_energies, x_pulses, x_decoded, x_vec, x_sizes, ((pq_sh e)).2.2.2.2.2)) : wpX_shiftLow post (nI e.2.2.2.2.1, lN e.1, lN e.2.1, nI e.2.2.1, nI e.2.2.2.1, x_readPosition, x_decoderRange, x_code, x_decoderStep, x_pulseCounts, x_coefs, x_energies, x_pulses, x_decoded, x_vec, x_sizes, e.2.2.2.2.2) := by
  by_cases a : e.1 < 4278190080
  · exact br_t ((pk_lLT (b := 4278190080) (by omega) (by decide)).mpr a) (px_22 hw hB hl (Or.inl a) h)
  · refine br_f (fun z => a ((pk_lLT (b := 4278190080) (by omega) (by decide)).mp z)) ?_
    by_cases b : e.1 < 4294967296
    · refine br_t ((pk_lLT (b := 4294967296) (by omega) (by decide)).mpr b) ?_
      rw [pq_sh_f (by omega)] at h
      exact px_97 (by omega) h
    · exact br_f (fun z => b ((pk_lLT (b := 4294967296) (by omega) (by decide)).mp z)) (px_22 hw hB hl (Or.inr (by omega)) h)
theorem pq_rnge {a : Nat} (ha : a < 2 ^ 62) : (16777216 : Int64) ≤ lN a ↔ 16777216 ≤ a := pk_lLE (a := 16777216) (by decide) (by omega)
theorem px_rn {post : St2 → Prop} {B : Nat} {e : pq_E} (hw : pq_EW B e) (hB : B + 2 < 2 ^ 20) (hl : e.1 < 2 ^ 40) (h2 : 256 ≤ e.2.1) (h3 : e.2.1 < 4294967296) (h : post (nI ((pq_rn e)).2.2.2.2.1, lN ((pq_rn e)).1, lN ((pq_rn e)).2.1, nI ((pq_rn e)).2.2.1, nI ((pq_rn e)).2.2.2.1, x_readPosition, x_decoderRange, x_code, x_decoderStep, x_pulseCounts, x_coefs, x_energies, x_pulses, x_decoded, x_vec, x_sizes, ((pq_rn e)).2.2.2.2.2)) : wX_codeSymbol_37 post 3 0 (nI e.2.2.2.2.1) (lN e.1) (lN e.2.1) (nI e.2.2.1) (nI e.2.2.2.1) x_readPosition x_decoderRange x_code x_decoderStep x_pulseCounts x_coefs x_energies x_pulses x_decoded x_vec x_sizes e.2.2.2.2.2 := by
  have w1 : pq_EW B (e.1, e.2.1 * 256, e.2.2) := hw
  have l1 : (pq_s1 e).1 < 4294967296 := pq_s1_1 e
  have r1 : (pq_s1 e).2.1 = e.2.1 * 256 := pq_s1_2 e
  have w2 : pq_EW (B + 1) ((pq_s1 e).1, (pq_s1 e).2.1 * 256, (pq_s1 e).2.2) := pq_s1_w hw
  have r2 : (pq_s1 (pq_s1 e)).2.1 = (pq_s1 e).2.1 * 256 := pq_s1_2 _
  unfold pq_rn at h
  refine br_f (by decide) ?_
  by_cases c : e.2.1 < 16777216
  · rw [if_pos c] at h
    refine br_f (by rw [pq_rnge (by omega)]; omega) (nm_r (pq_lm256 _) (px_sh (e := (e.1, e.2.1 * 256, e.2.2)) w1 (by omega) hl (nm_e ?_)))
    refine br_f (by decide) ?_
    by_cases d : (pq_s1 e).2.1 < 16777216
    · rw [if_pos d] at h
      refine br_f (by show ¬ (16777216 : Int64) ≤ lN (pq_s1 e).2.1; rw [pq_rnge (by omega)]; omega) (nm_r (pq_lm256 _) (px_sh (e := ((pq_s1 e).1, (pq_s1 e).2.1 * 256, (pq_s1 e).2.2)) w2 (by omega) (by show (pq_s1 e).1 < _; omega) (nm_e ?_)))
      refine br_f (by decide) (br_t ?_ h)
      show (16777216 : Int64) ≤ lN (pq_s1 (pq_s1 e)).2.1
      rw [pq_rnge (by omega)]
      omega
    · rw [if_neg d] at h
      refine br_t ?_ h
      show (16777216 : Int64) ≤ lN (pq_s1 e).2.1
      rw [pq_rnge (by omega)]
      omega
  · rw [if_neg c] at h
    exact br_t (by rw [pq_rnge (by omega)]; omega) h
theorem px_cd {post : St2 → Prop} {B : Nat} {e : pq_E} {start size total : Nat} {p0 p1 p2 : Int32} (hE : pq_EI B e) (hB : B + 2 < 2 ^ 20) (h0 : 1 ≤ total) (h1 : total ≤ 65536) (h2 : 1 ≤ size) (h3 : start + size ≤ total) (e0 : p0 = nI start) (e1 : p1 = nI size) (e2 : p2 = nI total) (h : post (nI ((pq_cd e start size total)).2.2.2.2.1, lN ((pq_cd e start size total)).1, lN ((pq_cd e start size total)).2.1, nI ((pq_cd e start size total)).2.2.1, nI ((pq_cd e start size total)).2.2.2.1, x_readPosition, x_decoderRange, x_code, x_decoderStep, x_pulseCounts, x_coefs, x_energies, x_pulses, x_decoded, x_vec, x_sizes, ((pq_cd e start size total)).2.2.2.2.2)) : wpX_codeSymbol post (nI e.2.2.2.2.1, lN e.1, lN e.2.1, nI e.2.2.1, nI e.2.2.2.1, x_readPosition, x_decoderRange, x_code, x_decoderStep, x_pulseCounts, x_coefs, x_energies, x_pulses, x_decoded, x_vec, x_sizes, e.2.2.2.2.2) p0 p1 p2 := by
  subst e0 e1 e2
  have ⟨a, b, c⟩ := pq_c0_s hE h0 h1 h2 h3
  have r1 := hE.2.2.2
  unfold wpX_codeSymbol
  dsimp only
  refine px_quo (a := e.2.1) (b := total) rfl (nI_l (by omega)) (by omega) h0 (by omega) ?_
  refine nm_r (e' := lN (e.1 + e.2.1 / total * start)) (by rw [nI_l (by omega), lN_mul, lN_add]) (nm_r (e' := lN (e.2.1 / total * size)) (by rw [nI_l (by omega), lN_mul]) ⟨3, ?_⟩)
  exact px_rn (e := pq_c0 e start size total) hE.1 hB (by omega) b c h
end PQC
end
section
/-! the range decoder's walks -/
def pq_rs (s : Nat) : Int32 := if nI s - nI s / 2 * 2 = 0 then nI s / 2 else (-(nI s + 1)) / 2
section PQD
variable {x_length x_cache x_pending x_readPosition : Int32} {x_low x_encoderRange x_decoderRange x_code x_decoderStep : Int64} {x_pulseCounts x_coefs x_energies x_pulses x_decoded x_vec x_sizes x_packet : Nat → Int32}
variable {pk : Nat → Int32} {le : Nat}
theorem px_39 {post : St2 → Prop} {p c b : Nat} (hc : c < 2 ^ 40) (hb : b < 256) (h : post (x_length, x_low, x_encoderRange, x_cache, x_pending, nI (p + 1), x_decoderRange, lN ((c * 256 + b) % 4294967296), x_decoderStep, x_pulseCounts, x_coefs, x_energies, x_pulses, x_decoded, x_vec, x_sizes, x_packet)) : wX_takeByte_39 post (nI b) x_length x_low x_encoderRange x_cache x_pending (nI p) x_decoderRange (lN c) x_decoderStep x_pulseCounts x_coefs x_energies x_pulses x_decoded x_vec x_sizes x_packet := by
  refine nm_r (nI_1 p) ⟨by decide, nm_r (e' := lN ((c * 256 + b) % 4294967296)) ?_ h⟩
  rw [nI_l (by omega), pq_lm256, lN_add, pq_lr32 (by omega)]
theorem px_tk {post : St2 → Prop} {d : pq_D} (hB : pq_B pk) (hl : le ≤ 64) (hp : d.1 < 2 ^ 30) (hc : d.2.2 < 2 ^ 40) (h : post (nI le, x_low, x_encoderRange, x_cache, x_pending, nI ((pq_tk pk le d)).1, lN ((pq_tk pk le d)).2.1, lN ((pq_tk pk le d)).2.2, x_decoderStep, x_pulseCounts, x_coefs, x_energies, x_pulses, x_decoded, x_vec, x_sizes, pk)) : wpX_takeByte post (nI le, x_low, x_encoderRange, x_cache, x_pending, nI d.1, lN d.2.1, lN d.2.2, x_decoderStep, x_pulseCounts, x_coefs, x_energies, x_pulses, x_decoded, x_vec, x_sizes, pk) := by
  have hb := pq_by_lt hB hl d.1
  refine br_f (nI_pos (by omega)) ?_
  by_cases c : d.1 < le
  · have ⟨y1, y2⟩ := pq_by_e hB hl c
    refine br_f (nI_ge (b := 64) (by omega) (by decide)) (br_f (nI_ge c (by omega)) ⟨vp_in_nI (by omega) (by decide), nm_r (e' := nI (pq_by pk le d.1)) ?_ (px_39 hc hb h)⟩)
    rw [nI_clamp (by omega), y1]
  · have z := pq_by_z (pk := pk) c
    have h' : post (nI le, x_low, x_encoderRange, x_cache, x_pending, nI (d.1 + 1), lN d.2.1, lN ((d.2.2 * 256 + 0) % 4294967296), x_decoderStep, x_pulseCounts, x_coefs, x_energies, x_pulses, x_decoded, x_vec, x_sizes, pk) := by
      rw [← z]; exact h
    by_cases c2 : 64 ≤ d.1
    · exact br_t (nI_le (a := 64) c2 (by omega)) (px_39 (b := 0) hc (by decide) h')
    · exact br_f (nI_ge (b := 64) (by omega) (by decide)) (br_t (nI_le (by omega) (by omega)) (px_39 (b := 0) hc (by decide) h'))
theorem px_sd19 {post : St2 → Prop} (hB : pq_B pk) (hl : le ≤ 64) (h : post (nI le, x_low, x_encoderRange, x_cache, x_pending, nI ((pq_d5 pk le 5)).1, lN ((pq_d5 pk le 5)).2.1, lN ((pq_d5 pk le 5)).2.2, x_decoderStep, x_pulseCounts, x_coefs, x_energies, x_pulses, x_decoded, x_vec, x_sizes, pk)) : ∀ d i, i + d = 5 → wX_startDecoder_19 post (d + 1) (nI i) (nI le) x_low x_encoderRange x_cache x_pending (nI ((pq_d5 pk le i)).1) (lN ((pq_d5 pk le i)).2.1) (lN ((pq_d5 pk le i)).2.2) x_decoderStep x_pulseCounts x_coefs x_energies x_pulses x_decoded x_vec x_sizes pk := by
  intro d
  induction d with
  | zero =>
    intro i hi
    have e : i = 5 := by omega
    subst e
    exact br_t (nI_le (a := 5) (by omega) (by omega)) h
  | succ d ih =>
    intro i hi
    have ⟨a1, _, a3⟩ := pq_d5_s pk le i
    exact br_f (nI_ge (b := 5) (by omega) (by decide)) (px_tk hB hl (by omega) (by omega) (nm_r (nI_1 i) (ih (i + 1) (by omega))))
theorem px_sd {post : St2 → Prop} (hB : pq_B pk) (hl : le ≤ 64) (h : post (nI le, x_low, x_encoderRange, x_cache, x_pending, nI ((pq_d5 pk le 5)).1, lN ((pq_d5 pk le 5)).2.1, lN ((pq_d5 pk le 5)).2.2, x_decoderStep, x_pulseCounts, x_coefs, x_energies, x_pulses, x_decoded, x_vec, x_sizes, pk)) : wpX_startDecoder post (nI le, x_low, x_encoderRange, x_cache, x_pending, x_readPosition, x_decoderRange, x_code, x_decoderStep, x_pulseCounts, x_coefs, x_energies, x_pulses, x_decoded, x_vec, x_sizes, pk) :=
  ⟨6, px_sd19 hB hl h 5 0 (by omega)⟩
theorem px_dn {post : St2 → Prop} {B : Nat} {d : pq_D} (hB : pq_B pk) (hl : le ≤ 64) (h0 : d.1 ≤ B) (hb : B + 2 < 2 ^ 20) (h2 : 256 ≤ d.2.1) (h3 : d.2.1 < 4294967296) (h4 : d.2.2 < 4294967296) (h : post (nI le, x_low, x_encoderRange, x_cache, x_pending, nI ((pq_dn pk le d)).1, lN ((pq_dn pk le d)).2.1, lN ((pq_dn pk le d)).2.2, x_decoderStep, x_pulseCounts, x_coefs, x_energies, x_pulses, x_decoded, x_vec, x_sizes, pk)) : wX_consume_29 post 3 0 (nI le) x_low x_encoderRange x_cache x_pending (nI d.1) (lN d.2.1) (lN d.2.2) x_decoderStep x_pulseCounts x_coefs x_energies x_pulses x_decoded x_vec x_sizes pk := by
  have ⟨t1, t2, t3⟩ := pq_t1_s pk le d
  have ⟨u1, u2, u3⟩ := pq_t1_s pk le (pq_t1 pk le d)
  unfold pq_dn at h
  refine br_f (by decide) ?_
  by_cases c : d.2.1 < 16777216
  · rw [if_pos c] at h
    refine br_f (by rw [pq_rnge (by omega)]; omega) (nm_r (pq_lm256 _) (px_tk (d := (d.1, d.2.1 * 256, d.2.2)) hB hl (by show d.1 < _; omega) (by show d.2.2 < _; omega) (nm_e ?_)))
    refine br_f (by decide) ?_
    by_cases z : (pq_t1 pk le d).2.1 < 16777216
    · rw [if_pos z] at h
      refine br_f (by show ¬ (16777216 : Int64) ≤ lN (pq_t1 pk le d).2.1; rw [pq_rnge (by omega)]; omega) (nm_r (pq_lm256 _) (px_tk (d := ((pq_t1 pk le d).1, (pq_t1 pk le d).2.1 * 256, (pq_t1 pk le d).2.2)) hB hl (by show (pq_t1 pk le d).1 < _; omega) (by show (pq_t1 pk le d).2.2 < _; omega) (nm_e ?_)))
      refine br_f (by decide) (br_t ?_ h)
      show (16777216 : Int64) ≤ lN (pq_t1 pk le (pq_t1 pk le d)).2.1
      rw [pq_rnge (by omega)]
      omega
    · rw [if_neg z] at h
      refine br_t ?_ h
      show (16777216 : Int64) ≤ lN (pq_t1 pk le d).2.1
      rw [pq_rnge (by omega)]
      omega
  · rw [if_neg c] at h
    exact br_t (by rw [pq_rnge (by omega)]; omega) h
theorem pq_tkY {d : pq_D} (hB : pq_B pk) (hl : le ≤ 64) (hc : d.2.2 < 4294967296) : (lN d.2.2 * 256 + (nI (pq_by pk le d.1)).toInt64) &&& 4294967295 = lN ((d.2.2 * 256 + pq_by pk le d.1) % 4294967296) := by
  have hb := pq_by_lt hB hl d.1
  rw [nI_l (by omega), pq_lm256, lN_add, pq_la32 (by omega)]
theorem px_dc {post : St2 → Prop} {B : Nat} {d : pq_D} {total start size : Nat} {p0 p1 : Int32} (hB : pq_B pk) (hl : le ≤ 64) (hD : pq_DI B d) (hb : B + 2 < 2 ^ 20) (h0 : 1 ≤ total) (h1 : total ≤ 65536) (h2 : 1 ≤ size) (h3 : size ≤ total) (hs : start ≤ pq_dv d total) (hs2 : start < 65536) (e0 : p0 = nI start) (e1 : p1 = nI size) (h : post (nI le, x_low, x_encoderRange, x_cache, x_pending, nI ((pq_dc pk le d total start size)).1, lN ((pq_dc pk le d total start size)).2.1, lN ((pq_dc pk le d total start size)).2.2, lN (d.2.1 / total), x_pulseCounts, x_coefs, x_energies, x_pulses, x_decoded, x_vec, x_sizes, pk)) : wpX_consume post (nI le, x_low, x_encoderRange, x_cache, x_pending, nI d.1, lN d.2.1, lN d.2.2, lN (d.2.1 / total), x_pulseCounts, x_coefs, x_energies, x_pulses, x_decoded, x_vec, x_sizes, pk) p0 p1 := by
  subst e0 e1
  have ⟨a, b, c, e⟩ := pq_d0_s (start := start) hD h0 h1 h2 h3
  have m := pq_dv_m hs
  refine nm_r (e' := lN (d.2.2 - d.2.1 / total * start)) (by rw [nI_l (by omega), lN_mul, lN_sub m]) (nm_r (e' := lN (d.2.1 / total * size)) (by rw [nI_l (by omega), lN_mul]) ⟨3, ?_⟩)
  exact px_dn (d := pq_d0 d total start size) hB hl a hb b c e h
theorem px_dv {post : Int32 → St2 → Prop} {B : Nat} {d : pq_D} {total : Nat} {p0 : Int32} (hD : pq_DI B d) (h0 : 1 ≤ total) (h1 : total ≤ 65536) (e0 : p0 = nI total) (h : post (nI (pq_dv d total)) (x_length, x_low, x_encoderRange, x_cache, x_pending, nI d.1, lN d.2.1, lN d.2.2, lN (d.2.1 / total), x_pulseCounts, x_coefs, x_energies, x_pulses, x_decoded, x_vec, x_sizes, x_packet)) : wpX_decodeValue post (x_length, x_low, x_encoderRange, x_cache, x_pending, nI d.1, lN d.2.1, lN d.2.2, x_decoderStep, x_pulseCounts, x_coefs, x_energies, x_pulses, x_decoded, x_vec, x_sizes, x_packet) p0 := by
  subst e0
  obtain ⟨d0, d1, d2, d3⟩ := hD
  have ⟨q1, q2⟩ := pq_r d1 h0 h1
  have q3 : d.2.1 / total ≤ d.2.1 := Nat.div_le_self _ _
  have q4 : d.2.2 / (d.2.1 / total) ≤ d.2.2 := Nat.div_le_self _ _
  have et : (nI total - 1).toInt64 = lN (total - 1) := by rw [show (1 : Int32) = nI 1 from rfl, pk_sub h0, nI_l (by omega)]
  unfold wpX_decodeValue
  dsimp only
  refine px_quo (a := d.2.1) (b := total) rfl (nI_l (by omega)) (by omega) h0 (by omega) (px_quo (a := d.2.2) (b := d.2.1 / total) rfl rfl (by omega) (by omega) (by omega) ?_)
  unfold pq_dv at h
  rw [et]
  by_cases c : total - 1 < d.2.2 / (d.2.1 / total)
  · rw [if_pos c] at h
    refine br_f (by rw [pk_lLE (by omega) (by omega)]; omega) ?_
    rw [lN_i]
    exact h
  · rw [if_neg c] at h
    refine br_t (by rw [pk_lLE (by omega) (by omega)]; omega) ?_
    rw [lN_i]
    exact h
theorem px_du {post : Int32 → St2 → Prop} {B : Nat} {d : pq_D} {total : Nat} {p0 : Int32} (hB : pq_B pk) (hl : le ≤ 64) (hD : pq_DI B d) (hb : B + 2 < 2 ^ 20) (h0 : 1 ≤ total) (h1 : total ≤ 65536) (e0 : p0 = nI total) (h : post (nI (pq_dv d total)) (nI le, x_low, x_encoderRange, x_cache, x_pending, nI ((pq_dc pk le d total (pq_dv d total) 1)).1, lN ((pq_dc pk le d total (pq_dv d total) 1)).2.1, lN ((pq_dc pk le d total (pq_dv d total) 1)).2.2, lN (d.2.1 / total), x_pulseCounts, x_coefs, x_energies, x_pulses, x_decoded, x_vec, x_sizes, pk)) : wpX_decodeUniform post (nI le, x_low, x_encoderRange, x_cache, x_pending, nI d.1, lN d.2.1, lN d.2.2, x_decoderStep, x_pulseCounts, x_coefs, x_energies, x_pulses, x_decoded, x_vec, x_sizes, pk) p0 := by
  subst e0
  have v := pq_dv_lt (d := d) h0
  unfold wpX_decodeUniform
  dsimp only
  refine px_dv hD h0 h1 rfl ?_
  exact px_dc hB hl hD hb h0 h1 (by omega) h0 (Nat.le_refl _) (by omega) rfl rfl h
theorem px_49 {post : Int32 → St2 → Prop} {B s : Nat} {d : pq_D} (hB : pq_B pk) (hl : le ≤ 64) (hD : pq_DI B d) (hb : B + 2 < 2 ^ 20) (hs : s = pq_ds d) (h : post (pq_rs s) (nI le, x_low, x_encoderRange, x_cache, x_pending, nI ((pq_de pk le d)).1, lN ((pq_de pk le d)).2.1, lN ((pq_de pk le d)).2.2, lN (d.2.1 / 150), x_pulseCounts, x_coefs, x_energies, x_pulses, x_decoded, x_vec, x_sizes, pk)) : wX_decodeEnergy_49 post (nI s) (nI (pq_st s)) (nI (pq_f s)) (nI le) x_low x_encoderRange x_cache x_pending (nI d.1) (lN d.2.1) (lN d.2.2) (lN (d.2.1 / 150)) x_pulseCounts x_coefs x_energies x_pulses x_decoded x_vec x_sizes pk := by
  have ⟨s1, s2, s3⟩ := pq_ds_s d
  have ⟨a1, a2, a3⟩ := pq_f_s (pq_ds d) (by omega)
  subst hs
  unfold wX_decodeEnergy_49
  refine px_dc (total := 150) hB hl hD hb (by decide) (by decide) a2 (by omega) s1 (by omega) rfl rfl ⟨by decide, ?_⟩
  unfold pq_rs at h
  by_cases c : nI (pq_ds d) - nI (pq_ds d) / 2 * 2 = 0
  · rw [if_pos c] at h
    exact br_t c ⟨by decide, h⟩
  · rw [if_neg c] at h
    exact br_f c ⟨by decide, h⟩
theorem px_18 {post : Int32 → St2 → Prop} {B : Nat} {d : pq_D} (hB : pq_B pk) (hl : le ≤ 64) (hD : pq_DI B d) (hb : B + 2 < 2 ^ 20) (h : post (pq_rs (pq_ds d)) (nI le, x_low, x_encoderRange, x_cache, x_pending, nI ((pq_de pk le d)).1, lN ((pq_de pk le d)).2.1, lN ((pq_de pk le d)).2.2, lN (d.2.1 / 150), x_pulseCounts, x_coefs, x_energies, x_pulses, x_decoded, x_vec, x_sizes, pk)) : ∀ t i, i + t = pq_ds d → wX_decodeEnergy_18 post (nI (pq_dv d 150)) (nI le) x_low x_encoderRange x_cache x_pending (nI d.1) (lN d.2.1) (lN d.2.2) (lN (d.2.1 / 150)) x_pulseCounts x_coefs x_energies x_pulses x_decoded x_vec x_sizes pk (t + 1) (nI i) (nI (pq_st i)) (nI (pq_f i)) := by
  have ⟨s1, s2, s3⟩ := pq_ds_s d
  have v := pq_dv_lt (d := d) (total := 150) (by decide)
  intro t
  induction t with
  | zero =>
    intro i hi
    have e : i = pq_ds d := by omega
    by_cases c : 66 ≤ i
    · refine br_t (nI_le (a := 66) c (by omega)) ?_
      exact px_49 hB hl hD hb e (by rw [e]; exact h)
    · refine br_f (nI_ge (b := 66) (by omega) (by decide)) (br_t ?_ ?_)
      · rw [nI_add]
        refine nI_lt ?_ ?_
        · rw [e]; exact s2
        · have := (pq_f_s i (by omega)).1
          omega
      · exact px_49 hB hl hD hb e (by rw [e]; exact h)
  | succ t ih =>
    intro i hi
    have m : pq_st (i + 1) ≤ pq_st (pq_ds d) := pq_S_mono pq_f (by omega)
    refine br_f (nI_ge (b := 66) (by omega) (by decide)) (br_f ?_ (nm_r (nI_add _ _) (nm_r (nI_1 i) (px_sym (s := i + 1) rfl (by omega) ?_))))
    · rw [nI_add]
      refine nI_nlt ?_ (by omega)
      show pq_st (i + 1) ≤ _
      omega
    · exact ih (i + 1) (by omega)
theorem px_de {post : Int32 → St2 → Prop} {B : Nat} {d : pq_D} (hB : pq_B pk) (hl : le ≤ 64) (hD : pq_DI B d) (hb : B + 2 < 2 ^ 20) (h : post (pq_rs (pq_ds d)) (nI le, x_low, x_encoderRange, x_cache, x_pending, nI ((pq_de pk le d)).1, lN ((pq_de pk le d)).2.1, lN ((pq_de pk le d)).2.2, lN (d.2.1 / 150), x_pulseCounts, x_coefs, x_energies, x_pulses, x_decoded, x_vec, x_sizes, pk)) : wpX_decodeEnergy post (nI le, x_low, x_encoderRange, x_cache, x_pending, nI d.1, lN d.2.1, lN d.2.2, x_decoderStep, x_pulseCounts, x_coefs, x_energies, x_pulses, x_decoded, x_vec, x_sizes, pk) := by
  unfold wpX_decodeEnergy
  dsimp only
  refine px_dv (total := 150) hD (by decide) (by decide) rfl (px_sym (s := 0) rfl (by decide) ⟨pq_ds d + 1, ?_⟩)
  exact px_18 hB hl hD hb h (pq_ds d) 0 (by omega)
end PQD
end
section
/-! the index of a vector -/
section PQI
variable {x_length x_cache x_pending x_readPosition : Int32} {x_low x_encoderRange x_decoderRange x_code x_decoderStep : Int64} {x_pulseCounts x_coefs x_energies x_pulses x_decoded x_vec x_sizes x_packet : Nat → Int32}
theorem px_pulses34 {post : Int32 → Prop} {J : Int32 → Int32 → Int32 → Prop} {x2 v : Int32} {n i k A : Nat} (ht : pq_tb x_sizes) (hn : i + n < 8) (hk : k ≤ 16) (hv : pq_mg v ≤ k)
    (h : J (nI (A + pq_W n k (pq_mg v) + (if v < 0 then pq_V n (k - pq_mg v) else 0))) (nI (k - pq_mg v)) (nI (i + 1))) : ∀ d j, j + d = pq_mg v →
    wX_indexOf_34 post J x2 (nI (i + n + 1)) (nI k) (nI i) v (nI (pq_mg v)) x_length x_low x_encoderRange x_cache x_pending x_readPosition x_decoderRange x_code x_decoderStep x_pulseCounts x_coefs x_energies x_pulses x_decoded x_vec x_sizes x_packet (d + 1) (nI (A + pq_W n k j)) (nI j) := by
  intro d
  induction d with
  | zero =>
    intro j hj
    have e : j = pq_mg v := by omega
    subst e
    refine br_t (nI_le (Nat.le_refl _) (by omega)) (nm_r (pk_sub hv) ?_)
    by_cases c : v < 0
    · rw [if_pos c] at h
      refine br_f (pq_nle0 c) (px_size (n := n) (k := k - pq_mg v) ht (by omega) (by omega) ?_ rfl (nm_r (nI_add _ _) (nm_r (nI_1 i) h)))
      rw [pk_sub (by omega), show i + n + 1 - i = n + 1 by omega, nI_pred]
    · rw [if_neg c] at h
      exact br_t (pq_nlt0 c) (nm_r (nI_1 i) h)
  | succ d ih =>
    intro j hj
    refine br_f (nI_ge (by omega) (by omega)) (px_cwf (m := j) (n := n) (k := k) ht (by omega) (by omega) hk rfl ?_ rfl (nm_r ?_ (nm_r (nI_1 j) (ih (j + 1) (by omega)))))
    · rw [pk_sub (by omega), show i + n + 1 - i = n + 1 by omega]
    · rw [nI_add, Nat.add_assoc]; rfl
theorem px_pulses10 {post : Int32 → Prop} {fr n0 : Nat} (ht : pq_tb x_sizes) (hn : n0 ≤ 8) (hf : fr + n0 ≤ 64) : ∀ d i A k, i + d = n0 → k ≤ 16 → pq_M (fun j => x_pulses (fr + j)) i d = k → post (nI (A + pq_ix (fun j => x_pulses (fr + j)) i d k)) →
    wX_indexOf_10 post (nI fr) (nI n0) x_length x_low x_encoderRange x_cache x_pending x_readPosition x_decoderRange x_code x_decoderStep x_pulseCounts x_coefs x_energies x_pulses x_decoded x_vec x_sizes x_packet (d + 1) (nI A) (nI k) (nI i) := by
  intro d
  induction d with
  | zero =>
    intro i A k hi hk hm h
    exact br_t (nI_le (by omega) (by omega)) h
  | succ d ih =>
    intro i A k hi hk hm h
    have hm2 : pq_mg (x_pulses (fr + i)) + pq_M (fun j => x_pulses (fr + j)) (i + 1) d = k := hm
    have hn0 : n0 = i + d + 1 := by omega
    subst hn0
    refine br_f (nI_ge (by omega) (by omega)) ⟨pk_in (fr + i) 64 (by omega) (nI_add fr i), nm_r (e' := x_pulses (fr + i)) (by rw [nI_add, nI_clamp (by omega)]) (px_mag ⟨pq_mg (x_pulses (fr + i)) + 1, ?_⟩)⟩
    refine px_pulses34 (A := A) (n := d) ht (by omega) hk (by omega) ?_ (pq_mg (x_pulses (fr + i))) 0 (by omega)
    refine ih (i + 1) _ (k - pq_mg (x_pulses (fr + i))) (by omega) (by omega) (by omega) ?_
    have e : A + pq_ix (fun j => x_pulses (fr + j)) i (d + 1) k = A + pq_W d k (pq_mg (x_pulses (fr + i))) + (if x_pulses (fr + i) < 0 then pq_V d (k - pq_mg (x_pulses (fr + i))) else 0) + pq_ix (fun j => x_pulses (fr + j)) (i + 1) d (k - pq_mg (x_pulses (fr + i))) := by
      show A + (pq_W d k (pq_mg (x_pulses (fr + i))) + (if x_pulses (fr + i) < 0 then pq_V d (k - pq_mg (x_pulses (fr + i))) else 0) + pq_ix (fun j => x_pulses (fr + j)) (i + 1) d (k - pq_mg (x_pulses (fr + i)))) = _
      omega
    rw [e] at h
    exact h
theorem px_pulsesix {post : Int32 → Prop} {fr n k : Nat} {p1 p2 p3 : Int32} (ht : pq_tb x_sizes) (hn : n ≤ 8) (hf : fr + n ≤ 64) (hk : k ≤ 16) (hm : pq_M (fun j => x_pulses (fr + j)) 0 n = k) (e1 : p1 = nI fr) (e2 : p2 = nI n) (e3 : p3 = nI k) (h : post (nI (pq_ix (fun j => x_pulses (fr + j)) 0 n k))) : wpX_indexOf post (x_length, x_low, x_encoderRange, x_cache, x_pending, x_readPosition, x_decoderRange, x_code, x_decoderStep, x_pulseCounts, x_coefs, x_energies, x_pulses, x_decoded, x_vec, x_sizes, x_packet) p1 p2 p3 := by
  subst e1 e2 e3
  refine ⟨n + 1, px_pulses10 ht hn hf n 0 0 k (by omega) hk hm ?_⟩
  rw [Nat.zero_add]
  exact h
theorem px_vec34 {post : Int32 → Prop} {J : Int32 → Int32 → Int32 → Prop} {x2 v : Int32} {n i k A : Nat} (ht : pq_tb x_sizes) (hn : i + n < 8) (hk : k ≤ 16) (hv : pq_mg v ≤ k)
    (h : J (nI (A + pq_W n k (pq_mg v) + (if v < 0 then pq_V n (k - pq_mg v) else 0))) (nI (k - pq_mg v)) (nI (i + 1))) : ∀ d j, j + d = pq_mg v →
    wX_indexOf_2_34 post J x2 (nI (i + n + 1)) (nI k) (nI i) v (nI (pq_mg v)) x_length x_low x_encoderRange x_cache x_pending x_readPosition x_decoderRange x_code x_decoderStep x_pulseCounts x_coefs x_energies x_pulses x_decoded x_vec x_sizes x_packet (d + 1) (nI (A + pq_W n k j)) (nI j) := by
  intro d
  induction d with
  | zero =>
    intro j hj
    have e : j = pq_mg v := by omega
    subst e
    refine br_t (nI_le (Nat.le_refl _) (by omega)) (nm_r (pk_sub hv) ?_)
    by_cases c : v < 0
    · rw [if_pos c] at h
      refine br_f (pq_nle0 c) (px_size (n := n) (k := k - pq_mg v) ht (by omega) (by omega) ?_ rfl (nm_r (nI_add _ _) (nm_r (nI_1 i) h)))
      rw [pk_sub (by omega), show i + n + 1 - i = n + 1 by omega, nI_pred]
    · rw [if_neg c] at h
      exact br_t (pq_nlt0 c) (nm_r (nI_1 i) h)
  | succ d ih =>
    intro j hj
    refine br_f (nI_ge (by omega) (by omega)) (px_cwf (m := j) (n := n) (k := k) ht (by omega) (by omega) hk rfl ?_ rfl (nm_r ?_ (nm_r (nI_1 j) (ih (j + 1) (by omega)))))
    · rw [pk_sub (by omega), show i + n + 1 - i = n + 1 by omega]
    · rw [nI_add, Nat.add_assoc]; rfl
theorem px_vec10 {post : Int32 → Prop} {fr n0 : Nat} (ht : pq_tb x_sizes) (hn : n0 ≤ 8) (hf : fr + n0 ≤ 8) : ∀ d i A k, i + d = n0 → k ≤ 16 → pq_M (fun j => x_vec (fr + j)) i d = k → post (nI (A + pq_ix (fun j => x_vec (fr + j)) i d k)) →
    wX_indexOf_2_10 post (nI fr) (nI n0) x_length x_low x_encoderRange x_cache x_pending x_readPosition x_decoderRange x_code x_decoderStep x_pulseCounts x_coefs x_energies x_pulses x_decoded x_vec x_sizes x_packet (d + 1) (nI A) (nI k) (nI i) := by
  intro d
  induction d with
  | zero =>
    intro i A k hi hk hm h
    exact br_t (nI_le (by omega) (by omega)) h
  | succ d ih =>
    intro i A k hi hk hm h
    have hm2 : pq_mg (x_vec (fr + i)) + pq_M (fun j => x_vec (fr + j)) (i + 1) d = k := hm
    have hn0 : n0 = i + d + 1 := by omega
    subst hn0
    refine br_f (nI_ge (by omega) (by omega)) ⟨pk_in (fr + i) 8 (by omega) (nI_add fr i), nm_r (e' := x_vec (fr + i)) (by rw [nI_add, nI_clamp (by omega)]) (px_mag ⟨pq_mg (x_vec (fr + i)) + 1, ?_⟩)⟩
    refine px_vec34 (A := A) (n := d) ht (by omega) hk (by omega) ?_ (pq_mg (x_vec (fr + i))) 0 (by omega)
    refine ih (i + 1) _ (k - pq_mg (x_vec (fr + i))) (by omega) (by omega) (by omega) ?_
    have e : A + pq_ix (fun j => x_vec (fr + j)) i (d + 1) k = A + pq_W d k (pq_mg (x_vec (fr + i))) + (if x_vec (fr + i) < 0 then pq_V d (k - pq_mg (x_vec (fr + i))) else 0) + pq_ix (fun j => x_vec (fr + j)) (i + 1) d (k - pq_mg (x_vec (fr + i))) := by
      show A + (pq_W d k (pq_mg (x_vec (fr + i))) + (if x_vec (fr + i) < 0 then pq_V d (k - pq_mg (x_vec (fr + i))) else 0) + pq_ix (fun j => x_vec (fr + j)) (i + 1) d (k - pq_mg (x_vec (fr + i)))) = _
      omega
    rw [e] at h
    exact h
theorem px_vecix {post : Int32 → Prop} {fr n k : Nat} {p1 p2 p3 : Int32} (ht : pq_tb x_sizes) (hn : n ≤ 8) (hf : fr + n ≤ 8) (hk : k ≤ 16) (hm : pq_M (fun j => x_vec (fr + j)) 0 n = k) (e1 : p1 = nI fr) (e2 : p2 = nI n) (e3 : p3 = nI k) (h : post (nI (pq_ix (fun j => x_vec (fr + j)) 0 n k))) : wpX_indexOf_2 post (x_length, x_low, x_encoderRange, x_cache, x_pending, x_readPosition, x_decoderRange, x_code, x_decoderStep, x_pulseCounts, x_coefs, x_energies, x_pulses, x_decoded, x_vec, x_sizes, x_packet) p1 p2 p3 := by
  subst e1 e2 e3
  refine ⟨n + 1, px_vec10 ht hn hf n 0 0 k (by omega) hk hm ?_⟩
  rw [Nat.zero_add]
  exact h
end PQI
end
section
/-! an index taken apart -/
theorem pq_cn_le {n k m : Nat} (hn : n ≤ 8) (hk : k ≤ 16) : (if m = 0 then 1 else 2) * pq_V n (k - m) ≤ 30316544 := by
  have := pq_Vle (n := n) (k := k - m) hn (by omega)
  split <;> omega
section PQU
variable {x_length x_cache x_pending x_readPosition : Int32} {x_low x_encoderRange x_decoderRange x_code x_decoderStep : Int64} {x_pulseCounts x_coefs x_energies x_pulses x_decoded x_vec x_sizes x_packet : Nat → Int32}
theorem px_pulses74 {post : St2 → Prop} {J : Int32 → Int32 → Int32 → (Nat → Int32) → (Nat → Int32) → (Nat → Int32) → (Nat → Int32) → (Nat → Int32) → (Nat → Int32) → (Nat → Int32) → (Nat → Int32) → Prop} {fr i n k r : Nat} (ht : pq_tb x_sizes) (hn : i + n < 8) (hf : fr + i < 64) (hk : k ≤ 16) (hr : r < pq_V (n + 1) k)
    (h : J (nI (pq_ur n k r)) (nI (k - pq_fm n k r)) (nI (i + 1)) x_pulseCounts x_coefs x_energies (upd x_pulses (fr + i) (pq_uy n k r)) x_decoded x_vec x_sizes x_packet) :
    wX_unindex_74 post J (nI fr) (nI (i + n + 1)) (nI (r - pq_W n k (pq_fm n k r))) (nI k) (nI i) (nI (pq_fm n k r)) x_length x_low x_encoderRange x_cache x_pending x_readPosition x_decoderRange x_code x_decoderStep x_pulseCounts x_coefs x_energies x_pulses x_decoded x_vec x_sizes x_packet := by
  have ⟨f1, f2, f3⟩ := pq_fm_s (by omega) hk hr
  have hV := pq_Vle (n := n) (k := k - pq_fm n k r) (by omega) (by omega)
  have hR := pq_Vle (n := n + 1) (k := k) (by omega) hk
  refine nm_r (pk_sub f3) (px_size (n := n) (k := k - pq_fm n k r) ht (by omega) (by omega) ?_ rfl ?_)
  · rw [pk_sub (by omega), show i + n + 1 - i = n + 1 by omega, nI_pred]
  · by_cases g : pq_ng n k r
    · rw [pq_ur_n g, pq_uy_n g] at h
      obtain ⟨g1, g2⟩ := g
      refine br_f (nI_nle g1 (by omega)) (br_f (nI_nlt g2 (by omega)) (br_f (by decide) (nm_r (pk_sub g2) ?_)))
      exact br_f (by decide) ⟨pk_in (fr + i) 64 hf (nI_add fr i), nm_r (e' := upd x_pulses (fr + i) (-nI (pq_fm n k r))) (by rw [nI_add, nI_clamp (by omega)]) (nm_r (nI_1 i) h)⟩
    · rw [pq_ur_p g, pq_uy_p g] at h
      have K : wX_unindex_111 post J (nI fr) (nI (i + n + 1)) (nI (r - pq_W n k (pq_fm n k r))) (nI (k - pq_fm n k r)) (nI i) (nI (pq_fm n k r)) (nI (pq_V n (k - pq_fm n k r))) x_length x_low x_encoderRange x_cache x_pending x_readPosition x_decoderRange x_code x_decoderStep x_pulseCounts x_coefs x_energies x_pulses x_decoded x_vec x_sizes x_packet :=
        br_t rfl (br_t rfl ⟨pk_in (fr + i) 64 hf (nI_add fr i), nm_r (e' := upd x_pulses (fr + i) (nI (pq_fm n k r))) (by rw [nI_add, nI_clamp (by omega)]) (nm_r (nI_1 i) h)⟩)
      by_cases z : pq_fm n k r = 0
      · exact br_t (by rw [z]; decide) K
      · have g2 : r - pq_W n k (pq_fm n k r) < pq_V n (k - pq_fm n k r) := by
          have : ¬ pq_V n (k - pq_fm n k r) ≤ r - pq_W n k (pq_fm n k r) := fun y => g ⟨by omega, y⟩
          omega
        exact br_f (nI_nle (by omega) (by omega)) (br_t (nI_lt g2 (by omega)) K)
theorem px_pulses33 {post : St2 → Prop} {J : Int32 → Int32 → Int32 → (Nat → Int32) → (Nat → Int32) → (Nat → Int32) → (Nat → Int32) → (Nat → Int32) → (Nat → Int32) → (Nat → Int32) → (Nat → Int32) → Prop} {fr i n k r : Nat} (ht : pq_tb x_sizes) (hn : i + n < 8) (hf : fr + i < 64) (hk : k ≤ 16) (hr : r < pq_V (n + 1) k)
    (h : J (nI (pq_ur n k r)) (nI (k - pq_fm n k r)) (nI (i + 1)) x_pulseCounts x_coefs x_energies (upd x_pulses (fr + i) (pq_uy n k r)) x_decoded x_vec x_sizes x_packet) : ∀ d m, m + d = pq_fm n k r →
    wX_unindex_33 post J (nI fr) (nI (i + n + 1)) (nI k) (nI i) x_length x_low x_encoderRange x_cache x_pending x_readPosition x_decoderRange x_code x_decoderStep x_pulseCounts x_coefs x_energies x_pulses x_decoded x_vec x_sizes x_packet (d + 1) (nI (r - pq_W n k m)) (nI m) (nI ((if m = 0 then 1 else 2) * pq_V n (k - m))) := by
  have ⟨f1, f2, f3⟩ := pq_fm_s (n := n) (by omega) hk hr
  have hR := pq_Vle (n := n + 1) (k := k) (by omega) hk
  intro d
  induction d with
  | zero =>
    intro m hm
    have e : m = pq_fm n k r := by omega
    have hc := pq_cn_le (n := n) (k := k) (m := m) (by omega) hk
    have h6 : pq_W n k (m + 1) = pq_W n k m + (if m = 0 then 1 else 2) * pq_V n (k - m) := rfl
    have K := px_pulses74 (post := post) (J := J) (x_length := x_length) (x_low := x_low) (x_encoderRange := x_encoderRange) (x_cache := x_cache) (x_pending := x_pending) (x_readPosition := x_readPosition) (x_decoderRange := x_decoderRange) (x_code := x_code) (x_decoderStep := x_decoderStep) (x_pulseCounts := x_pulseCounts) (x_coefs := x_coefs) (x_energies := x_energies) (x_pulses := x_pulses) (x_decoded := x_decoded) (x_vec := x_vec) (x_sizes := x_sizes) (x_packet := x_packet) ht hn hf hk hr h
    rw [← e] at K f1 f2
    by_cases c : k ≤ m
    · exact br_t (nI_le c (by omega)) K
    · exact br_f (nI_ge (by omega) (by omega)) (br_t (nI_lt (by omega) (by omega)) K)
  | succ d ih =>
    intro m hm
    have hc := pq_cn_le (n := n) (k := k) (m := m) (by omega) hk
    have h6 : pq_W n k (m + 1) = pq_W n k m + (if m = 0 then 1 else 2) * pq_V n (k - m) := rfl
    have h7 : pq_W n k (m + 1) ≤ pq_W n k (pq_fm n k r) := pq_W_mono n k (by omega)
    refine br_f (nI_ge (by omega) (by omega)) (br_f (nI_nlt (by omega) (by omega)) (nm_r (e' := nI (r - pq_W n k (m + 1))) ?_ (nm_r (nI_1 m) (px_cwf (m := m + 1) (n := n) (k := k) ht (by omega) (by omega) hk rfl ?_ rfl ?_))))
    · rw [pk_sub (by omega)]
      congr 1
      omega
    · rw [pk_sub (by omega), show i + n + 1 - i = n + 1 by omega]
    · exact ih (m + 1) (by omega)
theorem px_pulses11 {post : St2 → Prop} {fr n0 k r : Nat} (ht : pq_tb x_sizes) (hn : n0 ≤ 8) (hf : fr + n0 ≤ 64) (hk : k ≤ 16) (hr : r < pq_V n0 k)
    (K : ∀ c' : Nat → Int32, (∀ t, t < n0 → c' (fr + t) = pq_y n0 k r t) → (∀ j, (j < fr ∨ fr + n0 ≤ j) → c' j = x_pulses j) → post (x_length, x_low, x_encoderRange, x_cache, x_pending, x_readPosition, x_decoderRange, x_code, x_decoderStep, x_pulseCounts, x_coefs, x_energies, c', x_decoded, x_vec, x_sizes, x_packet)) : ∀ d i (c' : Nat → Int32), i + d = n0 → (∀ t, t < i → c' (fr + t) = pq_y n0 k r t) → (∀ j, (j < fr ∨ fr + n0 ≤ j) → c' j = x_pulses j) →
    wX_unindex_11 post (nI fr) (nI n0) x_length x_low x_encoderRange x_cache x_pending x_readPosition x_decoderRange x_code x_decoderStep (d + 1) (nI (pq_us n0 k r i).2) (nI (pq_us n0 k r i).1) (nI i) x_pulseCounts x_coefs x_energies c' x_decoded x_vec x_sizes x_packet := by
  intro d
  induction d with
  | zero =>
    intro i c' hi h1 h2
    have e : i = n0 := by omega
    subst e
    exact br_t (nI_le (Nat.le_refl _) (by omega)) (K c' h1 h2)
  | succ d ih =>
    intro i c' hi h1 h2
    have e : n0 - i - 1 = d := by omega
    have e2 : i + d + 1 = n0 := by omega
    have ⟨s1, s2⟩ := pq_us_s hn hk hr i (by omega)
    rw [show n0 - i = d + 1 by omega] at s2
    have u1 : (pq_us n0 k r (i + 1)).1 = (pq_us n0 k r i).1 - pq_fm d (pq_us n0 k r i).1 (pq_us n0 k r i).2 := by
      show (pq_us n0 k r i).1 - pq_fm (n0 - i - 1) (pq_us n0 k r i).1 (pq_us n0 k r i).2 = _
      rw [e]
    have u2 : (pq_us n0 k r (i + 1)).2 = pq_ur d (pq_us n0 k r i).1 (pq_us n0 k r i).2 := by
      show pq_ur (n0 - i - 1) (pq_us n0 k r i).1 (pq_us n0 k r i).2 = _
      rw [e]
    have u3 : pq_y n0 k r i = pq_uy d (pq_us n0 k r i).1 (pq_us n0 k r i).2 := by
      show pq_uy (n0 - i - 1) (pq_us n0 k r i).1 (pq_us n0 k r i).2 = _
      rw [e]
    have IH := ih (i + 1) (upd c' (fr + i) (pq_uy d (pq_us n0 k r i).1 (pq_us n0 k r i).2)) (by omega) (by
      intro t ht2
      by_cases z : t = i
      · subst z; rw [pk_us, u3]
      · rw [pk_un (by omega)]; exact h1 t (by omega)) (by
      intro j hj
      rw [pk_un (by omega)]
      exact h2 j hj)
    rw [u1, u2] at IH
    refine br_f (nI_ge (by omega) (by omega)) (px_cwf (m := 0) (n := d) (k := (pq_us n0 k r i).1) ht (by omega) (by omega) s1 rfl ?_ rfl ⟨pq_fm d (pq_us n0 k r i).1 (pq_us n0 k r i).2 + 1, ?_⟩)
    · rw [pk_sub (by omega)]
      congr 1
      omega
    · have G := px_pulses33 (post := post) (J := wX_unindex_11 post (nI fr) (nI n0) x_length x_low x_encoderRange x_cache x_pending x_readPosition x_decoderRange x_code x_decoderStep (d + 1)) (x_length := x_length) (x_low := x_low) (x_encoderRange := x_encoderRange) (x_cache := x_cache) (x_pending := x_pending) (x_readPosition := x_readPosition) (x_decoderRange := x_decoderRange) (x_code := x_code) (x_decoderStep := x_decoderStep) (x_pulseCounts := x_pulseCounts) (x_coefs := x_coefs) (x_energies := x_energies) (x_pulses := c') (x_decoded := x_decoded) (x_vec := x_vec) (x_sizes := x_sizes) (x_packet := x_packet) (fr := fr) (i := i) (n := d) (k := (pq_us n0 k r i).1) (r := (pq_us n0 k r i).2) ht (by omega) (by omega) s1 s2 IH (pq_fm d (pq_us n0 k r i).1 (pq_us n0 k r i).2) 0 (by omega)
      rw [e2] at G
      exact G
theorem px_pulsesun {post : St2 → Prop} {fr n k r : Nat} {p1 p2 p3 p4 : Int32} (ht : pq_tb x_sizes) (hn : n ≤ 8) (hf : fr + n ≤ 64) (hk : k ≤ 16) (hr : r < pq_V n k) (e1 : p1 = nI fr) (e2 : p2 = nI n) (e3 : p3 = nI k) (e4 : p4 = nI r)
    (K : ∀ c' : Nat → Int32, (∀ t, t < n → c' (fr + t) = pq_y n k r t) → (∀ j, (j < fr ∨ fr + n ≤ j) → c' j = x_pulses j) → post (x_length, x_low, x_encoderRange, x_cache, x_pending, x_readPosition, x_decoderRange, x_code, x_decoderStep, x_pulseCounts, x_coefs, x_energies, c', x_decoded, x_vec, x_sizes, x_packet)) : wpX_unindex post (x_length, x_low, x_encoderRange, x_cache, x_pending, x_readPosition, x_decoderRange, x_code, x_decoderStep, x_pulseCounts, x_coefs, x_energies, x_pulses, x_decoded, x_vec, x_sizes, x_packet) p1 p2 p3 p4 := by
  subst e1 e2 e3 e4
  exact ⟨n + 1, px_pulses11 ht hn hf hk hr K n 0 x_pulses (by omega) (fun t h => absurd h (Nat.not_lt_zero t)) (fun _ _ => rfl)⟩
theorem px_vec74 {post : St2 → Prop} {J : Int32 → Int32 → Int32 → (Nat → Int32) → (Nat → Int32) → (Nat → Int32) → (Nat → Int32) → (Nat → Int32) → (Nat → Int32) → (Nat → Int32) → (Nat → Int32) → Prop} {fr i n k r : Nat} (ht : pq_tb x_sizes) (hn : i + n < 8) (hf : fr + i < 8) (hk : k ≤ 16) (hr : r < pq_V (n + 1) k)
    (h : J (nI (pq_ur n k r)) (nI (k - pq_fm n k r)) (nI (i + 1)) x_pulseCounts x_coefs x_energies x_pulses x_decoded (upd x_vec (fr + i) (pq_uy n k r)) x_sizes x_packet) :
    wX_unindex_2_74 post J (nI fr) (nI (i + n + 1)) (nI (r - pq_W n k (pq_fm n k r))) (nI k) (nI i) (nI (pq_fm n k r)) x_length x_low x_encoderRange x_cache x_pending x_readPosition x_decoderRange x_code x_decoderStep x_pulseCounts x_coefs x_energies x_pulses x_decoded x_vec x_sizes x_packet := by
  have ⟨f1, f2, f3⟩ := pq_fm_s (by omega) hk hr
  have hV := pq_Vle (n := n) (k := k - pq_fm n k r) (by omega) (by omega)
  have hR := pq_Vle (n := n + 1) (k := k) (by omega) hk
  refine nm_r (pk_sub f3) (px_size (n := n) (k := k - pq_fm n k r) ht (by omega) (by omega) ?_ rfl ?_)
  · rw [pk_sub (by omega), show i + n + 1 - i = n + 1 by omega, nI_pred]
  · by_cases g : pq_ng n k r
    · rw [pq_ur_n g, pq_uy_n g] at h
      obtain ⟨g1, g2⟩ := g
      refine br_f (nI_nle g1 (by omega)) (br_f (nI_nlt g2 (by omega)) (br_f (by decide) (nm_r (pk_sub g2) ?_)))
      exact br_f (by decide) ⟨pk_in (fr + i) 8 hf (nI_add fr i), nm_r (e' := upd x_vec (fr + i) (-nI (pq_fm n k r))) (by rw [nI_add, nI_clamp (by omega)]) (nm_r (nI_1 i) h)⟩
    · rw [pq_ur_p g, pq_uy_p g] at h
      have K : wX_unindex_2_111 post J (nI fr) (nI (i + n + 1)) (nI (r - pq_W n k (pq_fm n k r))) (nI (k - pq_fm n k r)) (nI i) (nI (pq_fm n k r)) (nI (pq_V n (k - pq_fm n k r))) x_length x_low x_encoderRange x_cache x_pending x_readPosition x_decoderRange x_code x_decoderStep x_pulseCounts x_coefs x_energies x_pulses x_decoded x_vec x_sizes x_packet :=
        br_t rfl (br_t rfl ⟨pk_in (fr + i) 8 hf (nI_add fr i), nm_r (e' := upd x_vec (fr + i) (nI (pq_fm n k r))) (by rw [nI_add, nI_clamp (by omega)]) (nm_r (nI_1 i) h)⟩)
      by_cases z : pq_fm n k r = 0
      · exact br_t (by rw [z]; decide) K
      · have g2 : r - pq_W n k (pq_fm n k r) < pq_V n (k - pq_fm n k r) := by
          have : ¬ pq_V n (k - pq_fm n k r) ≤ r - pq_W n k (pq_fm n k r) := fun y => g ⟨by omega, y⟩
          omega
        exact br_f (nI_nle (by omega) (by omega)) (br_t (nI_lt g2 (by omega)) K)
theorem px_vec33 {post : St2 → Prop} {J : Int32 → Int32 → Int32 → (Nat → Int32) → (Nat → Int32) → (Nat → Int32) → (Nat → Int32) → (Nat → Int32) → (Nat → Int32) → (Nat → Int32) → (Nat → Int32) → Prop} {fr i n k r : Nat} (ht : pq_tb x_sizes) (hn : i + n < 8) (hf : fr + i < 8) (hk : k ≤ 16) (hr : r < pq_V (n + 1) k)
    (h : J (nI (pq_ur n k r)) (nI (k - pq_fm n k r)) (nI (i + 1)) x_pulseCounts x_coefs x_energies x_pulses x_decoded (upd x_vec (fr + i) (pq_uy n k r)) x_sizes x_packet) : ∀ d m, m + d = pq_fm n k r →
    wX_unindex_2_33 post J (nI fr) (nI (i + n + 1)) (nI k) (nI i) x_length x_low x_encoderRange x_cache x_pending x_readPosition x_decoderRange x_code x_decoderStep x_pulseCounts x_coefs x_energies x_pulses x_decoded x_vec x_sizes x_packet (d + 1) (nI (r - pq_W n k m)) (nI m) (nI ((if m = 0 then 1 else 2) * pq_V n (k - m))) := by
  have ⟨f1, f2, f3⟩ := pq_fm_s (n := n) (by omega) hk hr
  have hR := pq_Vle (n := n + 1) (k := k) (by omega) hk
  intro d
  induction d with
  | zero =>
    intro m hm
    have e : m = pq_fm n k r := by omega
    have hc := pq_cn_le (n := n) (k := k) (m := m) (by omega) hk
    have h6 : pq_W n k (m + 1) = pq_W n k m + (if m = 0 then 1 else 2) * pq_V n (k - m) := rfl
    have K := px_vec74 (post := post) (J := J) (x_length := x_length) (x_low := x_low) (x_encoderRange := x_encoderRange) (x_cache := x_cache) (x_pending := x_pending) (x_readPosition := x_readPosition) (x_decoderRange := x_decoderRange) (x_code := x_code) (x_decoderStep := x_decoderStep) (x_pulseCounts := x_pulseCounts) (x_coefs := x_coefs) (x_energies := x_energies) (x_pulses := x_pulses) (x_decoded := x_decoded) (x_vec := x_vec) (x_sizes := x_sizes) (x_packet := x_packet) ht hn hf hk hr h
    rw [← e] at K f1 f2
    by_cases c : k ≤ m
    · exact br_t (nI_le c (by omega)) K
    · exact br_f (nI_ge (by omega) (by omega)) (br_t (nI_lt (by omega) (by omega)) K)
  | succ d ih =>
    intro m hm
    have hc := pq_cn_le (n := n) (k := k) (m := m) (by omega) hk
    have h6 : pq_W n k (m + 1) = pq_W n k m + (if m = 0 then 1 else 2) * pq_V n (k - m) := rfl
    have h7 : pq_W n k (m + 1) ≤ pq_W n k (pq_fm n k r) := pq_W_mono n k (by omega)
    refine br_f (nI_ge (by omega) (by omega)) (br_f (nI_nlt (by omega) (by omega)) (nm_r (e' := nI (r - pq_W n k (m + 1))) ?_ (nm_r (nI_1 m) (px_cwf (m := m + 1) (n := n) (k := k) ht (by omega) (by omega) hk rfl ?_ rfl ?_))))
    · rw [pk_sub (by omega)]
      congr 1
      omega
    · rw [pk_sub (by omega), show i + n + 1 - i = n + 1 by omega]
    · exact ih (m + 1) (by omega)
theorem px_vec11 {post : St2 → Prop} {fr n0 k r : Nat} (ht : pq_tb x_sizes) (hn : n0 ≤ 8) (hf : fr + n0 ≤ 8) (hk : k ≤ 16) (hr : r < pq_V n0 k)
    (K : ∀ c' : Nat → Int32, (∀ t, t < n0 → c' (fr + t) = pq_y n0 k r t) → (∀ j, (j < fr ∨ fr + n0 ≤ j) → c' j = x_vec j) → post (x_length, x_low, x_encoderRange, x_cache, x_pending, x_readPosition, x_decoderRange, x_code, x_decoderStep, x_pulseCounts, x_coefs, x_energies, x_pulses, x_decoded, c', x_sizes, x_packet)) : ∀ d i (c' : Nat → Int32), i + d = n0 → (∀ t, t < i → c' (fr + t) = pq_y n0 k r t) → (∀ j, (j < fr ∨ fr + n0 ≤ j) → c' j = x_vec j) →
    wX_unindex_2_11 post (nI fr) (nI n0) x_length x_low x_encoderRange x_cache x_pending x_readPosition x_decoderRange x_code x_decoderStep (d + 1) (nI (pq_us n0 k r i).2) (nI (pq_us n0 k r i).1) (nI i) x_pulseCounts x_coefs x_energies x_pulses x_decoded c' x_sizes x_packet := by
  intro d
  induction d with
  | zero =>
    intro i c' hi h1 h2
    have e : i = n0 := by omega
    subst e
    exact br_t (nI_le (Nat.le_refl _) (by omega)) (K c' h1 h2)
  | succ d ih =>
    intro i c' hi h1 h2
    have e : n0 - i - 1 = d := by omega
    have e2 : i + d + 1 = n0 := by omega
    have ⟨s1, s2⟩ := pq_us_s hn hk hr i (by omega)
    rw [show n0 - i = d + 1 by omega] at s2
    have u1 : (pq_us n0 k r (i + 1)).1 = (pq_us n0 k r i).1 - pq_fm d (pq_us n0 k r i).1 (pq_us n0 k r i).2 := by
      show (pq_us n0 k r i).1 - pq_fm (n0 - i - 1) (pq_us n0 k r i).1 (pq_us n0 k r i).2 = _
      rw [e]
    have u2 : (pq_us n0 k r (i + 1)).2 = pq_ur d (pq_us n0 k r i).1 (pq_us n0 k r i).2 := by
      show pq_ur (n0 - i - 1) (pq_us n0 k r i).1 (pq_us n0 k r i).2 = _
      rw [e]
    have u3 : pq_y n0 k r i = pq_uy d (pq_us n0 k r i).1 (pq_us n0 k r i).2 := by
      show pq_uy (n0 - i - 1) (pq_us n0 k r i).1 (pq_us n0 k r i).2 = _
      rw [e]
    have IH := ih (i + 1) (upd c' (fr + i) (pq_uy d (pq_us n0 k r i).1 (pq_us n0 k r i).2)) (by omega) (by
      intro t ht2
      by_cases z : t = i
      · subst z; rw [pk_us, u3]
      · rw [pk_un (by omega)]; exact h1 t (by omega)) (by
      intro j hj
      rw [pk_un (by omega)]
      exact h2 j hj)
    rw [u1, u2] at IH
    refine br_f (nI_ge (by omega) (by omega)) (px_cwf (m := 0) (n := d) (k := (pq_us n0 k r i).1) ht (by omega) (by omega) s1 rfl ?_ rfl ⟨pq_fm d (pq_us n0 k r i).1 (pq_us n0 k r i).2 + 1, ?_⟩)
    · rw [pk_sub (by omega)]
      congr 1
      omega
    · have G := px_vec33 (post := post) (J := wX_unindex_2_11 post (nI fr) (nI n0) x_length x_low x_encoderRange x_cache x_pending x_readPosition x_decoderRange x_code x_decoderStep (d + 1)) (x_length := x_length) (x_low := x_low) (x_encoderRange := x_encoderRange) (x_cache := x_cache) (x_pending := x_pending) (x_readPosition := x_readPosition) (x_decoderRange := x_decoderRange) (x_code := x_code) (x_decoderStep := x_decoderStep) (x_pulseCounts := x_pulseCounts) (x_coefs := x_coefs) (x_energies := x_energies) (x_pulses := x_pulses) (x_decoded := x_decoded) (x_vec := c') (x_sizes := x_sizes) (x_packet := x_packet) (fr := fr) (i := i) (n := d) (k := (pq_us n0 k r i).1) (r := (pq_us n0 k r i).2) ht (by omega) (by omega) s1 s2 IH (pq_fm d (pq_us n0 k r i).1 (pq_us n0 k r i).2) 0 (by omega)
      rw [e2] at G
      exact G
theorem px_vecun {post : St2 → Prop} {fr n k r : Nat} {p1 p2 p3 p4 : Int32} (ht : pq_tb x_sizes) (hn : n ≤ 8) (hf : fr + n ≤ 8) (hk : k ≤ 16) (hr : r < pq_V n k) (e1 : p1 = nI fr) (e2 : p2 = nI n) (e3 : p3 = nI k) (e4 : p4 = nI r)
    (K : ∀ c' : Nat → Int32, (∀ t, t < n → c' (fr + t) = pq_y n k r t) → (∀ j, (j < fr ∨ fr + n ≤ j) → c' j = x_vec j) → post (x_length, x_low, x_encoderRange, x_cache, x_pending, x_readPosition, x_decoderRange, x_code, x_decoderStep, x_pulseCounts, x_coefs, x_energies, x_pulses, x_decoded, c', x_sizes, x_packet)) : wpX_unindex_2 post (x_length, x_low, x_encoderRange, x_cache, x_pending, x_readPosition, x_decoderRange, x_code, x_decoderStep, x_pulseCounts, x_coefs, x_energies, x_pulses, x_decoded, x_vec, x_sizes, x_packet) p1 p2 p3 p4 := by
  subst e1 e2 e3 e4
  exact ⟨n + 1, px_vec11 ht hn hf hk hr K n 0 x_vec (by omega) (fun t h => absurd h (Nat.not_lt_zero t)) (fun _ _ => rfl)⟩
end PQU
end
section
/-! the search of the pulses, walked -/
theorem pq_absL {P : Int64 → Prop} {x : Int32} (h : P (lN (pq_mg x))) : (0 ≤ x.toInt64 → P x.toInt64) ∧ (¬ 0 ≤ x.toInt64 → ∀ y, y = -x.toInt64 → P y) := by
  by_cases c : x < 0
  · refine br_f (Int64.not_le.mpr (pq_L_lt.mpr c)) (nm_r (pq_L_n c) h)
  · refine br_t (Int64.not_lt.mp (fun z => c (pq_L_lt.mp z))) ?_
    rw [pq_L_p c]
    exact h
theorem pq_HC_l {co : Nat → Int32} (hc : pq_HC co) {b j : Nat} (hb : b < 4) (hj : j < 8) : (nI (pq_mg (co (8 * b + j)))).toInt64 = pq_ab co b j := by
  have := hc (8 * b + j) (by omega)
  exact nI_l (by omega)
section PQG
variable {x_length x_cache x_pending x_readPosition : Int32} {x_low x_encoderRange x_decoderRange x_code x_decoderStep : Int64} {x_pulseCounts x_coefs x_energies x_pulses x_decoded x_vec x_sizes x_packet : Nat → Int32}
variable {b : Nat}
theorem px_bp {post : Int32 → Prop} {w : Nat → Nat} {cc ss : Int64} (hb : b < 4) (hc : pq_HC x_coefs) (hw : ∀ j, j < 8 → x_pulses (8 * b + j) = nI (w j)) (h : post (nI (8 * b + (pq_bs (pq_ab x_coefs b) w cc ss 8).1))) : ∀ d j, j + d = 8 →
    wX_bestPosition_12 post (nI (8 * b)) cc ss x_length x_low x_encoderRange x_cache x_pending x_readPosition x_decoderRange x_code x_decoderStep x_pulseCounts x_coefs x_energies x_pulses x_decoded x_vec x_sizes x_packet (d + 1) (nI (8 * b + (pq_bs (pq_ab x_coefs b) w cc ss j).1)) (pq_bs (pq_ab x_coefs b) w cc ss j).2.1 (pq_bs (pq_ab x_coefs b) w cc ss j).2.2 (nI (8 * b + j)) := by
  have e8 : nI (8 * b) + 8 = nI (8 * b + 8) := nI_add _ 8
  intro d
  induction d with
  | zero =>
    intro j hj
    have e : j = 8 := by omega
    subst e
    exact br_t (by rw [e8]; exact nI_le (Nat.le_refl _) (by omega)) h
  | succ d ih =>
    intro j hj
    have IH := ih (j + 1) (by omega)
    refine br_f (by rw [e8]; exact nI_ge (by omega) (by omega)) ⟨vp_in_nI (by omega) (by decide), px_mag (nm_r (e' := cc + pq_ab x_coefs b j) ?_ (nm_e ⟨vp_in_nI (by omega) (by decide), nm_r (e' := ss + (2 * nI (w j)).toInt64 + 1) ?_ ?_⟩))⟩
    · rw [nI_clamp (by omega), pq_HC_l hc hb (by omega)]
    · rw [nI_clamp (by omega), hw j (by omega)]
    · by_cases C : j = 0 ∨ (pq_bs (pq_ab x_coefs b) w cc ss j).2.1 * (ss + (2 * nI (w j)).toInt64 + 1) < (cc + pq_ab x_coefs b j) * (cc + pq_ab x_coefs b j) * (pq_bs (pq_ab x_coefs b) w cc ss j).2.2
      · have e : pq_bs (pq_ab x_coefs b) w cc ss (j + 1) = (j, (cc + pq_ab x_coefs b j) * (cc + pq_ab x_coefs b j), ss + (2 * nI (w j)).toInt64 + 1) := if_pos C
        rw [e] at IH
        by_cases z : j = 0
        · refine br_t (by rw [z]; rfl) (nm_r (nI_1 _) IH)
        · have C2 := C.resolve_left z
          refine br_f (fun y => z ?_) (br_f (Int64.not_le.mpr C2) (nm_r (nI_1 _) IH))
          have := (nI_eq (by omega) (by omega)).mp y
          omega
      · have e : pq_bs (pq_ab x_coefs b) w cc ss (j + 1) = pq_bs (pq_ab x_coefs b) w cc ss j := if_neg C
        rw [e] at IH
        have z : ¬ j = 0 := fun y => C (Or.inl y)
        have C2 := Int64.not_lt.mp (fun y => C (Or.inr y))
        refine br_f (fun y => z ?_) (br_t C2 (nm_r (nI_1 _) IH))
        have := (nI_eq (by omega) (by omega)).mp y
        omega
theorem px_best {post : Int32 → Prop} {w : Nat → Nat} {cc ss : Int64} (hb : b < 4) (hc : pq_HC x_coefs) (hw : ∀ j, j < 8 → x_pulses (8 * b + j) = nI (w j)) (h : post (nI (8 * b + (pq_bs (pq_ab x_coefs b) w cc ss 8).1))) : wpX_bestPosition post (x_length, x_low, x_encoderRange, x_cache, x_pending, x_readPosition, x_decoderRange, x_code, x_decoderStep, x_pulseCounts, x_coefs, x_energies, x_pulses, x_decoded, x_vec, x_sizes, x_packet) (nI (8 * b)) cc ss :=
  ⟨9, px_bp hb hc hw h 8 0 (by omega)⟩
theorem px_108 {post : St2 → Prop} {k : Nat} (hb : b < 4) (hk : k ≤ 16)
    (K : ∀ p : Nat → Int32, (∀ j, j < 8 → p (8 * b + j) = pq_yv x_coefs b k j) → (∀ i, (i < 8 * b ∨ 8 * b + 8 ≤ i) → p i = x_pulses i) → post (x_length, x_low, x_encoderRange, x_cache, x_pending, x_readPosition, x_decoderRange, x_code, x_decoderStep, x_pulseCounts, x_coefs, x_energies, p, x_decoded, x_vec, x_sizes, x_packet)) : ∀ d j (p : Nat → Int32), j + d = 8 → (∀ t, t < j → p (8 * b + t) = pq_yv x_coefs b k t) → (∀ t, j ≤ t → t < 8 → p (8 * b + t) = nI (pq_w x_coefs b k t)) → (∀ i, (i < 8 * b ∨ 8 * b + 8 ≤ i) → p i = x_pulses i) →
    wX_searchPulses_108 post (nI (8 * b)) x_length x_low x_encoderRange x_cache x_pending x_readPosition x_decoderRange x_code x_decoderStep (d + 1) (nI j) x_pulseCounts x_coefs x_energies p x_decoded x_vec x_sizes x_packet := by
  intro d
  induction d with
  | zero =>
    intro j p hj h1 h2 h3
    have e : j = 8 := by omega
    subst e
    exact br_t (nI_le (a := 8) (Nat.le_refl _) (by decide)) (K p h1 h3)
  | succ d ih =>
    intro j p hj h1 h2 h3
    have hp := h2 j (Nat.le_refl _) (by omega)
    refine br_f (nI_ge (b := 8) (by omega) (by decide)) ⟨pk_in (8 * b + j) 32 (by omega) (nI_add _ _), ?_⟩
    rw [nI_add, nI_clamp (by omega)]
    by_cases c : x_coefs (8 * b + j) < 0
    · have hy : pq_yv x_coefs b k j = -nI (pq_w x_coefs b k j) := if_pos c
      refine br_f (pq_nle0 c) ⟨vp_in_nI (by omega) (by decide), vp_in_nI (by omega) (by decide), nm_e (nm_r (nI_1 j) ?_)⟩
      rw [hp]
      refine ih (j + 1) _ (by omega) ?_ ?_ ?_
      · intro t ht
        by_cases z : t = j
        · subst z; rw [pk_us, hy]
        · rw [pk_un (by omega)]; exact h1 t (by omega)
      · intro t ht1 ht2
        rw [pk_un (by omega)]
        exact h2 t (by omega) ht2
      · intro i hi
        rw [pk_un (by omega)]
        exact h3 i hi
    · have hy : pq_yv x_coefs b k j = nI (pq_w x_coefs b k j) := if_neg c
      refine br_t (pq_nlt0 c) (nm_r (nI_1 j) (ih (j + 1) p (by omega) ?_ (fun t a c => h2 t (by omega) c) h3))
      intro t ht
      by_cases z : t = j
      · subst z; rw [hp, hy]
      · exact h1 t (by omega)
theorem px_36 {post : St2 → Prop} (hb : b < 4) (hc : pq_HC x_coefs) (hk : pq_HK x_pulseCounts)
    (K : ∀ p : Nat → Int32, (∀ j, j < 8 → p (8 * b + j) = pq_yv x_coefs b (pq_k x_pulseCounts b) j) → (∀ i, (i < 8 * b ∨ 8 * b + 8 ≤ i) → p i = x_pulses i) → post (x_length, x_low, x_encoderRange, x_cache, x_pending, x_readPosition, x_decoderRange, x_code, x_decoderStep, x_pulseCounts, x_coefs, x_energies, p, x_decoded, x_vec, x_sizes, x_packet)) : ∀ d i (p : Nat → Int32), i + d = pq_k x_pulseCounts b → (∀ t, t < 8 → p (8 * b + t) = nI ((pq_sr (pq_ab x_coefs b) i).1 t)) → (∀ i, (i < 8 * b ∨ 8 * b + 8 ≤ i) → p i = x_pulses i) →
    wX_searchPulses_36 post (nI b) (nI (8 * b)) x_length x_low x_encoderRange x_cache x_pending x_readPosition x_decoderRange x_code x_decoderStep (d + 1) (pq_sr (pq_ab x_coefs b) i).2.1 (pq_sr (pq_ab x_coefs b) i).2.2 (nI i) x_pulseCounts x_coefs x_energies p x_decoded x_vec x_sizes x_packet := by
  have ⟨k1, k2, k3⟩ := pq_k_s hk hb
  intro d
  induction d with
  | zero =>
    intro i p hi h1 h2
    have e : i = pq_k x_pulseCounts b := by omega
    refine ⟨vp_in_nI hb (by decide), ?_⟩
    rw [nI_clamp (by omega), k3]
    rw [e] at h1
    exact br_t (nI_le (by omega) (by omega)) ⟨9, px_108 hb k2 K 8 0 p (by omega) (fun t h => absurd h (Nat.not_lt_zero t)) (fun t _ ht => h1 t ht) h2⟩
  | succ d ih =>
    intro i p hi h1 h2
    refine ⟨vp_in_nI hb (by decide), ?_⟩
    rw [nI_clamp (by omega), k3]
    have hl := pq_bs_lt (pq_ab x_coefs b) (pq_sr (pq_ab x_coefs b) i).1 (pq_sr (pq_ab x_coefs b) i).2.1 (pq_sr (pq_ab x_coefs b) i).2.2 8 (Nat.le_refl _)
    refine br_f (nI_ge (by omega) (by omega)) (px_best (x_pulses := p) hb hc h1 ⟨vp_in_nI (by omega) (by decide), ?_⟩)
    rw [nI_clamp (by omega)]
    refine px_mag (nm_r (e' := (pq_sr (pq_ab x_coefs b) (i + 1)).2.1) ?_ ⟨vp_in_nI (by omega) (by decide), nm_r (e' := (pq_sr (pq_ab x_coefs b) (i + 1)).2.2) ?_ ⟨vp_in_nI (by omega) (by decide), vp_in_nI (by omega) (by decide), nm_e (nm_r (nI_1 i) (ih (i + 1) _ (by omega) ?_ ?_))⟩⟩)
    · rw [pq_HC_l hc hb hl]; rfl
    · rw [h1 _ hl]; rfl
    · intro t ht
      show _ = nI (pq_up (pq_sr (pq_ab x_coefs b) i).1 (pq_bs (pq_ab x_coefs b) (pq_sr (pq_ab x_coefs b) i).1 (pq_sr (pq_ab x_coefs b) i).2.1 (pq_sr (pq_ab x_coefs b) i).2.2 8).1 t)
      unfold pq_up
      by_cases z : t = (pq_bs (pq_ab x_coefs b) (pq_sr (pq_ab x_coefs b) i).1 (pq_sr (pq_ab x_coefs b) i).2.1 (pq_sr (pq_ab x_coefs b) i).2.2 8).1
      · rw [if_pos z, ← z, pk_us, h1 t ht, nI_1]
      · rw [if_neg z, pk_un (by omega), h1 t ht]
    · intro t ht
      rw [pk_un (by omega)]
      exact h2 t ht
theorem px_7 {post : St2 → Prop} (hb : b < 4) (hc : pq_HC x_coefs) (hk : pq_HK x_pulseCounts)
    (K : ∀ p : Nat → Int32, (∀ j, j < 8 → p (8 * b + j) = pq_yv x_coefs b (pq_k x_pulseCounts b) j) → (∀ i, (i < 8 * b ∨ 8 * b + 8 ≤ i) → p i = x_pulses i) → post (x_length, x_low, x_encoderRange, x_cache, x_pending, x_readPosition, x_decoderRange, x_code, x_decoderStep, x_pulseCounts, x_coefs, x_energies, p, x_decoded, x_vec, x_sizes, x_packet)) : ∀ d j (p : Nat → Int32), j + d = 8 → (∀ t, t < j → p (8 * b + t) = 0) → (∀ i, (i < 8 * b ∨ 8 * b + 8 ≤ i) → p i = x_pulses i) →
    wX_searchPulses_7 post (nI b) (nI (8 * b)) x_length x_low x_encoderRange x_cache x_pending x_readPosition x_decoderRange x_code x_decoderStep (d + 1) (nI j) x_pulseCounts x_coefs x_energies p x_decoded x_vec x_sizes x_packet := by
  intro d
  induction d with
  | zero =>
    intro j p hj h1 h2
    have e : j = 8 := by omega
    subst e
    exact br_t (nI_le (a := 8) (Nat.le_refl _) (by decide)) ⟨pq_k x_pulseCounts b + 1, px_36 hb hc hk K (pq_k x_pulseCounts b) 0 p (by omega) h1 h2⟩
  | succ d ih =>
    intro j p hj h1 h2
    refine br_f (nI_ge (b := 8) (by omega) (by decide)) ⟨pk_in (8 * b + j) 64 (by omega) (nI_add _ _), nm_r (e' := upd p (8 * b + j) 0) (by rw [nI_add, nI_clamp (by omega)]) (nm_r (nI_1 j) (ih (j + 1) _ (by omega) ?_ ?_))⟩
    · intro t ht
      by_cases z : t = j
      · subst z; exact pk_us
      · rw [pk_un (by omega)]; exact h1 t (by omega)
    · intro i hi
      rw [pk_un (by omega)]
      exact h2 i hi
theorem px_search {post : St2 → Prop} {p0 : Int32} (e0 : p0 = nI b) (hb : b < 4) (hc : pq_HC x_coefs) (hk : pq_HK x_pulseCounts)
    (K : ∀ p : Nat → Int32, (∀ j, j < 8 → p (8 * b + j) = pq_yv x_coefs b (pq_k x_pulseCounts b) j) → (∀ i, (i < 8 * b ∨ 8 * b + 8 ≤ i) → p i = x_pulses i) → post (x_length, x_low, x_encoderRange, x_cache, x_pending, x_readPosition, x_decoderRange, x_code, x_decoderStep, x_pulseCounts, x_coefs, x_energies, p, x_decoded, x_vec, x_sizes, x_packet)) : wpX_searchPulses post (x_length, x_low, x_encoderRange, x_cache, x_pending, x_readPosition, x_decoderRange, x_code, x_decoderStep, x_pulseCounts, x_coefs, x_energies, x_pulses, x_decoded, x_vec, x_sizes, x_packet) p0 := by
  subst e0
  exact nm_r (pq_b8 b) ⟨9, px_7 hb hc hk K 8 0 x_pulses (by omega) (fun t h => absurd h (Nat.not_lt_zero t)) (fun _ _ => rfl)⟩
/-! the same in the reference -/
end PQG
end
section
/-! a frame, encoded -/
theorem pq_ix_ext {a c : Nat → Int32} : ∀ n i k, (∀ j, i ≤ j → j < i + n → a j = c j) → pq_ix a i n k = pq_ix c i n k := by
  intro n
  induction n with
  | zero => intro i k _; rfl
  | succ n ih =>
    intro i k h
    show pq_W n k (pq_mg (a i)) + (if a i < 0 then pq_V n (k - pq_mg (a i)) else 0) + pq_ix a (i + 1) n (k - pq_mg (a i)) = pq_W n k (pq_mg (c i)) + (if c i < 0 then pq_V n (k - pq_mg (c i)) else 0) + pq_ix c (i + 1) n (k - pq_mg (c i))
    rw [h i (Nat.le_refl _) (by omega), ih (i + 1) _ (fun j h1 h2 => h j (by omega) (by omega))]
theorem pq_M_ext {a c : Nat → Int32} : ∀ n i, (∀ j, i ≤ j → j < i + n → a j = c j) → pq_M a i n = pq_M c i n := by
  intro n
  induction n with
  | zero => intro i _; rfl
  | succ n ih =>
    intro i h
    show pq_mg (a i) + pq_M a (i + 1) n = pq_mg (c i) + pq_M c (i + 1) n
    rw [h i (Nat.le_refl _) (by omega), ih (i + 1) (fun j h1 h2 => h j (by omega) (by omega))]
theorem pq_eb_ext {pk co pc eq eq' : Nat → Int32} : ∀ b, (∀ j, j < b → eq j = eq' j) → pq_eb pk co pc eq b = pq_eb pk co pc eq' b := by
  intro b
  induction b with
  | zero => intro _; rfl
  | succ b ih =>
    intro h
    have h1 := ih (fun j hj => h j (by omega))
    have h2 : pq_k eq b = pq_k eq' b := by unfold pq_k; rw [h b (by omega)]
    show pq_cp (pq_ee co eq b (pq_eb pk co pc eq b)) _ _ = pq_cp (pq_ee co eq' b (pq_eb pk co pc eq' b)) _ _
    unfold pq_ee pq_sb
    rw [h1, h2]
theorem pq_neg2 {q p : Nat} (h : q < p) : (-2) * (nI q - nI p) - 1 = nI (2 * (p - q) - 1) := by
  have e : nI (2 * (p - q) - 1) = 2 * (nI p - nI q) - 1 := by
    rw [← pk_sub (show 1 ≤ 2 * (p - q) by omega), ← pq_2i, ← pk_sub (show q ≤ p by omega)]
    rfl
  rw [e]
  generalize nI p = a
  generalize nI q = c
  grind
theorem pq_pos2 {q p : Nat} (h : p ≤ q) : 2 * (nI q - nI p) = nI (2 * (q - p)) := by
  rw [pk_sub h, pq_2i]
theorem pq_pred {q : Nat} (h : q ≤ 33) : (3 * nI q + 2) / 4 = nI ((3 * q + 2) / 4) := by
  rw [show (3 : Int32) = nI 3 from rfl, pk_mul, show (2 : Int32) = nI 2 from rfl, nI_add, show (4 : Int32) = nI 4 from rfl, pk_div (by omega) (by decide) (by decide)]
section PQA
variable {x_length x_cache x_pending x_readPosition : Int32} {x_low x_encoderRange x_decoderRange x_code x_decoderStep : Int64} {x_pulseCounts x_coefs x_energies x_pulses x_decoded x_vec x_sizes x_packet : Nat → Int32}
variable {b : Nat}
theorem px_se29 {post : St2 → Prop} (h : post (x_length, x_low, x_encoderRange, x_cache, x_pending, x_readPosition, x_decoderRange, x_code, x_decoderStep, x_pulseCounts, x_coefs, x_energies, x_pulses, x_decoded, x_vec, x_sizes, (pq_clr x_packet 64))) : ∀ d i, i + d = 64 → wX_startEncoder_29 post x_length x_low x_encoderRange x_cache x_pending x_readPosition x_decoderRange x_code x_decoderStep (d + 1) (nI i) x_pulseCounts x_coefs x_energies x_pulses x_decoded x_vec x_sizes (pq_clr x_packet i) := by
  intro d
  induction d with
  | zero =>
    intro i hi
    have e : i = 64 := by omega
    subst e
    exact br_t (nI_le (a := 64) (Nat.le_refl _) (by decide)) h
  | succ d ih =>
    intro i hi
    exact br_f (nI_ge (b := 64) (by omega) (by decide)) ⟨vp_in_nI (by omega) (by decide), nm_r (e' := pq_clr x_packet (i + 1)) (by rw [nI_clamp (by omega)]; rfl) (nm_r (nI_1 i) (ih (i + 1) (by omega)))⟩
theorem px_se {post : St2 → Prop} {co pc eq : Nat → Int32} (h : post (nI ((pq_eb (pq_clr x_packet 64) co pc eq 0)).2.2.2.2.1, lN ((pq_eb (pq_clr x_packet 64) co pc eq 0)).1, lN ((pq_eb (pq_clr x_packet 64) co pc eq 0)).2.1, nI ((pq_eb (pq_clr x_packet 64) co pc eq 0)).2.2.1, nI ((pq_eb (pq_clr x_packet 64) co pc eq 0)).2.2.2.1, x_readPosition, x_decoderRange, x_code, x_decoderStep, x_pulseCounts, x_coefs, x_energies, x_pulses, x_decoded, x_vec, x_sizes, ((pq_eb (pq_clr x_packet 64) co pc eq 0)).2.2.2.2.2)) : wpX_startEncoder post (x_length, x_low, x_encoderRange, x_cache, x_pending, x_readPosition, x_decoderRange, x_code, x_decoderStep, x_pulseCounts, x_coefs, x_energies, x_pulses, x_decoded, x_vec, x_sizes, x_packet) :=
  ⟨65, px_se29 h 64 0 (by omega)⟩
theorem px_be5 {post : Int64 → Prop} (hb : b < 4) (h : post (lN (pq_e x_coefs b))) : ∀ d j, j + d = 8 → wX_bandEnergy_5 post (nI b) x_length x_low x_encoderRange x_cache x_pending x_readPosition x_decoderRange x_code x_decoderStep x_pulseCounts x_coefs x_energies x_pulses x_decoded x_vec x_sizes x_packet (d + 1) (lN (pq_S (fun j => pq_mg (x_coefs (8 * b + j)) * pq_mg (x_coefs (8 * b + j))) j)) (nI j) := by
  intro d
  induction d with
  | zero =>
    intro j hj
    have e : j = 8 := by omega
    subst e
    exact br_t (nI_le (a := 8) (Nat.le_refl _) (by decide)) h
  | succ d ih =>
    intro j hj
    refine br_f (nI_ge (b := 8) (by omega) (by decide)) ⟨pk_in (8 * b + j) 32 (by omega) (pq_i8 _ _), nm_r (e' := (x_coefs (8 * b + j)).toInt64) (by rw [pq_i8, nI_clamp (by omega)]) (nm_r ?_ (nm_r (nI_1 j) (ih (j + 1) (by omega))))⟩
    rw [pq_mgL, lN_add]
    rfl
theorem px_be {post : Int64 → Prop} (hb : b < 4) (h : post (lN (pq_e x_coefs b))) : wpX_bandEnergy post (x_length, x_low, x_encoderRange, x_cache, x_pending, x_readPosition, x_decoderRange, x_code, x_decoderStep, x_pulseCounts, x_coefs, x_energies, x_pulses, x_decoded, x_vec, x_sizes, x_packet) (nI b) :=
  ⟨9, px_be5 hb h 8 0 (by omega)⟩
theorem px_ce22 {post : St2 → Prop} {B s : Nat} {e : pq_E} (hE : pq_EI B e) (hB : B + 2 < 2 ^ 20) (hs : s < 67) (h : post (nI ((pq_cd e (pq_st s) (pq_f s) 150)).2.2.2.2.1, lN ((pq_cd e (pq_st s) (pq_f s) 150)).1, lN ((pq_cd e (pq_st s) (pq_f s) 150)).2.1, nI ((pq_cd e (pq_st s) (pq_f s) 150)).2.2.1, nI ((pq_cd e (pq_st s) (pq_f s) 150)).2.2.2.1, x_readPosition, x_decoderRange, x_code, x_decoderStep, x_pulseCounts, x_coefs, x_energies, x_pulses, x_decoded, x_vec, x_sizes, ((pq_cd e (pq_st s) (pq_f s) 150)).2.2.2.2.2)) : ∀ d i, i + d = s → wX_codeEnergy_22 post (nI s) (nI e.2.2.2.2.1) (lN e.1) (lN e.2.1) (nI e.2.2.1) (nI e.2.2.2.1) x_readPosition x_decoderRange x_code x_decoderStep x_pulseCounts x_coefs x_energies x_pulses x_decoded x_vec x_sizes e.2.2.2.2.2 (d + 1) (nI (pq_st i)) (nI i) := by
  have ⟨a1, a2, _⟩ := pq_f_s s hs
  intro d
  induction d with
  | zero =>
    intro i hi
    have e : i = s := by omega
    subst e
    exact br_t (nI_le (Nat.le_refl _) (by omega)) (px_sym (s := i) rfl (by omega) (px_cd hE hB (by decide) (by decide) a2 a1 rfl rfl rfl h))
  | succ d ih =>
    intro i hi
    exact br_f (nI_ge (by omega) (by omega)) (px_sym (s := i) rfl (by omega) (nm_r (nI_add _ _) (nm_r (nI_1 i) (ih (i + 1) (by omega)))))
theorem px_ce {post : St2 → Prop} {B q p : Nat} {e : pq_E} {p0 : Int32} (e0 : p0 = nI q - nI p) (hq : q ≤ 33) (hp : p ≤ 25) (hE : pq_EI B e) (hB : B + 2 < 2 ^ 20) (h : post (nI ((pq_cd e (pq_st (pq_sm q p)) (pq_f (pq_sm q p)) 150)).2.2.2.2.1, lN ((pq_cd e (pq_st (pq_sm q p)) (pq_f (pq_sm q p)) 150)).1, lN ((pq_cd e (pq_st (pq_sm q p)) (pq_f (pq_sm q p)) 150)).2.1, nI ((pq_cd e (pq_st (pq_sm q p)) (pq_f (pq_sm q p)) 150)).2.2.1, nI ((pq_cd e (pq_st (pq_sm q p)) (pq_f (pq_sm q p)) 150)).2.2.2.1, x_readPosition, x_decoderRange, x_code, x_decoderStep, x_pulseCounts, x_coefs, x_energies, x_pulses, x_decoded, x_vec, x_sizes, ((pq_cd e (pq_st (pq_sm q p)) (pq_f (pq_sm q p)) 150)).2.2.2.2.2)) : wpX_codeEnergy post (nI e.2.2.2.2.1, lN e.1, lN e.2.1, nI e.2.2.1, nI e.2.2.2.1, x_readPosition, x_decoderRange, x_code, x_decoderStep, x_pulseCounts, x_coefs, x_energies, x_pulses, x_decoded, x_vec, x_sizes, e.2.2.2.2.2) p0 := by
  subst e0
  have hs := pq_sm_le hq hp
  by_cases c : p ≤ q
  · have e : pq_sm q p = 2 * (q - p) := if_pos c
    refine br_f (by rw [pk_sub c]; exact nI_pos (by omega)) (nm_r (e' := nI (pq_sm q p)) (by rw [e]; exact pq_pos2 c) ⟨pq_sm q p + 1, px_ce22 hE hB hs h (pq_sm q p) 0 (by omega)⟩)
  · have e : pq_sm q p = 2 * (p - q) - 1 := if_neg c
    refine br_t (pk_sneg (by omega) (by omega)) (nm_r (e' := nI (pq_sm q p)) (by rw [e]; exact pq_neg2 (by omega)) ⟨pq_sm q p + 1, px_ce22 hE hB hs h (pq_sm q p) 0 (by omega)⟩)
theorem pq_shV {a ap : Nat} (h : a < 2 ^ 31) (hp : ap ≤ 8) : nI a >>> (nI ap &&& 31) = nI (a / 2 ^ ap) := pk_shrN h _ _ (s_l ap (by omega))
theorem pq_anV {a ap : Nat} (h : a < 2 ^ 31) (hp : ap ≤ 8) : nI a &&& ((1 : Int32) <<< (nI ap &&& 31) - 1) = nI (a % 2 ^ ap) := by
  rw [pq_p2 ap hp]
  exact pk_andN (by omega) ap (pq_p2m ap hp)
theorem pq_i1 {a : Nat} (h : 1 ≤ a) : nI a - 1 = nI (a - 1) := pk_sub (b := 1) h
theorem px_cp {post : St2 → Prop} {B idx : Nat} {e : pq_E} (hb : b < 4) (ht : pq_tb x_sizes) (hk : pq_HK x_pulseCounts) (hE : pq_EI B e) (hB : B + 4 < 2 ^ 20) (hi : idx = pq_ix (fun j => x_pulses (8 * b + j)) 0 8 (pq_k x_pulseCounts b)) (hM : pq_M (fun j => x_pulses (8 * b + j)) 0 8 = pq_k x_pulseCounts b)
    (h : post (nI ((pq_cp e (pq_k x_pulseCounts b) idx)).2.2.2.2.1, lN ((pq_cp e (pq_k x_pulseCounts b) idx)).1, lN ((pq_cp e (pq_k x_pulseCounts b) idx)).2.1, nI ((pq_cp e (pq_k x_pulseCounts b) idx)).2.2.1, nI ((pq_cp e (pq_k x_pulseCounts b) idx)).2.2.2.1, x_readPosition, x_decoderRange, x_code, x_decoderStep, x_pulseCounts, x_coefs, x_energies, x_pulses, x_decoded, x_vec, x_sizes, ((pq_cp e (pq_k x_pulseCounts b) idx)).2.2.2.2.2)) : wpX_codePulses post (nI e.2.2.2.2.1, lN e.1, lN e.2.1, nI e.2.2.1, nI e.2.2.2.1, x_readPosition, x_decoderRange, x_code, x_decoderStep, x_pulseCounts, x_coefs, x_energies, x_pulses, x_decoded, x_vec, x_sizes, e.2.2.2.2.2) (nI b) := by
  have ⟨k1, k2, k3⟩ := pq_k_s hk hb
  have hlt : idx < pq_V 8 (pq_k x_pulseCounts b) := by rw [hi]; exact pq_ix_lt _ 8 0 _ (by omega) k2 hM
  have hV := pq_Vle (n := 8) (k := pq_k x_pulseCounts b) (by omega) k2
  refine ⟨vp_in_nI hb (by decide), nm_r (e' := nI (pq_k x_pulseCounts b)) (by rw [nI_clamp (by omega)]; exact k3) ?_⟩
  refine px_pulsesix (fr := 8 * b) (n := 8) (k := pq_k x_pulseCounts b) ht (by omega) (by omega) k2 hM (by rw [pq_b8, pq_0i]) rfl rfl ?_
  rw [← hi]
  refine px_size (n := 8) (k := pq_k x_pulseCounts b) ht (by omega) k2 rfl rfl (px_low k2 rfl ?_)
  unfold pq_cp at h
  by_cases c : pq_V 8 (pq_k x_pulseCounts b) ≤ 65536
  · rw [if_pos c] at h
    have a0 : pq_ap (pq_k x_pulseCounts b) = 0 := if_pos c
    refine br_t (by rw [a0]; rfl) (px_cd hE (by omega) (by omega) c (Nat.le_refl _) (by omega) rfl rfl rfl h)
  · rw [if_neg c] at h
    have ⟨a1, a2, a3, _⟩ := pq_ap_s _ (show pq_k x_pulseCounts b < 17 by omega) (by omega)
    have ⟨p1, p2⟩ := pq_ap_p _ a2
    have m : idx / 2 ^ pq_ap (pq_k x_pulseCounts b) ≤ (pq_V 8 (pq_k x_pulseCounts b) - 1) / 2 ^ pq_ap (pq_k x_pulseCounts b) := Nat.div_le_div_right (by omega)
    have r : idx % 2 ^ pq_ap (pq_k x_pulseCounts b) < 2 ^ pq_ap (pq_k x_pulseCounts b) := Nat.mod_lt _ p1
    have e1 := pq_cd_s (start := idx / 2 ^ pq_ap (pq_k x_pulseCounts b)) (size := 1) (total := (pq_V 8 (pq_k x_pulseCounts b) - 1) / 2 ^ pq_ap (pq_k x_pulseCounts b) + 1) hE (Nat.succ_pos _) a3 (Nat.le_refl _) (Nat.succ_le_succ m)
    refine br_f (nI_ne0 (by omega) (by omega)) (px_cd hE (by omega) (Nat.succ_pos _) a3 (Nat.le_refl _) (Nat.succ_le_succ m) (pq_shV (by omega) a2) rfl ?_ (px_cd e1 (by omega) p1 (Nat.le_trans p2 (by decide)) (Nat.le_refl _) r (pq_anV (by omega) a2) rfl (pq_p2 _ a2) h))
    rw [pq_i1 (by omega), pq_shV (by omega) a2, nI_1]
theorem px_fl2 {post : St2 → Prop} : ∀ d i (e : pq_E) (B : Nat), i + d = 5 → pq_EW B e → B + d < 2 ^ 20 → e.1 < 2 ^ 40 → post (nI ((pq_fl d e)).2.2.2.2.1, lN ((pq_fl d e)).1, lN ((pq_fl d e)).2.1, nI ((pq_fl d e)).2.2.1, nI ((pq_fl d e)).2.2.2.1, x_readPosition, x_decoderRange, x_code, x_decoderStep, x_pulseCounts, x_coefs, x_energies, x_pulses, x_decoded, x_vec, x_sizes, ((pq_fl d e)).2.2.2.2.2) → wX_flush_2 post (d + 1) (nI i) (nI e.2.2.2.2.1) (lN e.1) (lN e.2.1) (nI e.2.2.1) (nI e.2.2.2.1) x_readPosition x_decoderRange x_code x_decoderStep x_pulseCounts x_coefs x_energies x_pulses x_decoded x_vec x_sizes e.2.2.2.2.2 := by
  intro d
  induction d with
  | zero =>
    intro i e B hi hw hB hl h
    exact br_t (nI_le (a := 5) (by omega) (by omega)) h
  | succ d ih =>
    intro i e B hi hw hB hl h
    have := pq_sh_1 e
    exact br_f (nI_ge (b := 5) (by omega) (by decide)) (px_sh hw (by omega) hl (nm_r (nI_1 i) (ih (i + 1) (pq_sh e) (B + 1) (by omega) (pq_sh_w hw) (by omega) (by omega) h)))
theorem px_fl {post : St2 → Prop} {e : pq_E} {B : Nat} (hE : pq_EI B e) (hB : B + 5 < 2 ^ 20) (h : post (nI ((pq_fl 5 e)).2.2.2.2.1, lN ((pq_fl 5 e)).1, lN ((pq_fl 5 e)).2.1, nI ((pq_fl 5 e)).2.2.1, nI ((pq_fl 5 e)).2.2.2.1, x_readPosition, x_decoderRange, x_code, x_decoderStep, x_pulseCounts, x_coefs, x_energies, x_pulses, x_decoded, x_vec, x_sizes, ((pq_fl 5 e)).2.2.2.2.2)) : wpX_flush post (nI e.2.2.2.2.1, lN e.1, lN e.2.1, nI e.2.2.1, nI e.2.2.2.1, x_readPosition, x_decoderRange, x_code, x_decoderStep, x_pulseCounts, x_coefs, x_energies, x_pulses, x_decoded, x_vec, x_sizes, e.2.2.2.2.2) :=
  ⟨6, px_fl2 5 0 e B (by omega) hE.1 (by omega) (by have := hE.2.1; omega) h⟩
theorem px_6 {post : Int32 → St2 → Prop} {pk : Nat → Int32} (hp : pq_B pk) (ht : pq_tb x_sizes) (hc : pq_HC x_coefs) (hk : pq_HK x_pulseCounts) (hq : pq_HQ x_energies)
    (K : ∀ en pu : Nat → Int32, (∀ j, j < 4 → en j = nI (pq_q x_coefs j)) → (∀ j, 4 ≤ j → en j = x_energies j) → (∀ c j, c < 4 → j < 8 → pu (8 * c + j) = pq_yv x_coefs c (pq_k x_pulseCounts c) j) → (∀ i, 32 ≤ i → pu i = x_pulses i) →
      post (nI (pq_fl 5 (pq_eb pk x_coefs x_pulseCounts x_energies 4)).2.2.2.2.1) (nI ((pq_fl 5 (pq_eb pk x_coefs x_pulseCounts x_energies 4))).2.2.2.2.1, lN ((pq_fl 5 (pq_eb pk x_coefs x_pulseCounts x_energies 4))).1, lN ((pq_fl 5 (pq_eb pk x_coefs x_pulseCounts x_energies 4))).2.1, nI ((pq_fl 5 (pq_eb pk x_coefs x_pulseCounts x_energies 4))).2.2.1, nI ((pq_fl 5 (pq_eb pk x_coefs x_pulseCounts x_energies 4))).2.2.2.1, x_readPosition, x_decoderRange, x_code, x_decoderStep, x_pulseCounts, x_coefs, en, pu, x_decoded, x_vec, x_sizes, ((pq_fl 5 (pq_eb pk x_coefs x_pulseCounts x_energies 4))).2.2.2.2.2)) :
    ∀ d b (en pu : Nat → Int32), b + d = 4 → (∀ j, j < b → en j = nI (pq_q x_coefs j)) → (∀ j, b ≤ j → en j = x_energies j) → (∀ c j, c < b → j < 8 → pu (8 * c + j) = pq_yv x_coefs c (pq_k x_pulseCounts c) j) → (∀ i, 8 * b ≤ i → pu i = x_pulses i) →
    wX_encodeFrame_6 post (d + 1) (nI b) (nI ((pq_eb pk x_coefs x_pulseCounts x_energies b)).2.2.2.2.1) (lN ((pq_eb pk x_coefs x_pulseCounts x_energies b)).1) (lN ((pq_eb pk x_coefs x_pulseCounts x_energies b)).2.1) (nI ((pq_eb pk x_coefs x_pulseCounts x_energies b)).2.2.1) (nI ((pq_eb pk x_coefs x_pulseCounts x_energies b)).2.2.2.1) x_readPosition x_decoderRange x_code x_decoderStep x_pulseCounts x_coefs en pu x_decoded x_vec x_sizes (((pq_eb pk x_coefs x_pulseCounts x_energies b)).2.2.2.2.2) := by
  intro d
  induction d with
  | zero =>
    intro b en pu hb h1 h2 h3 h4
    have e : b = 4 := by omega
    subst e
    exact br_t (nI_le (a := 4) (Nat.le_refl _) (by decide)) (px_fl (pq_eb_s hp hc hk hq 4 (by omega)) (by omega) (K en pu h1 h2 h3 h4))
  | succ d ih =>
    intro b en pu hb h1 h2 h3 h4
    have hb4 : b < 4 := by omega
    have hE := pq_eb_s hp hc hk hq b (by omega)
    have hq1 := pq_q_le hc hb4
    have ⟨hq2, hq3⟩ := pq_q_s hq hb4
    have ⟨k1, k2, k3⟩ := pq_k_s hk hb4
    have hE2 := pq_ee_s hc hq hb4 hE
    have he := pq_e_lt hc hb4
    refine br_f (nI_ge (b := 4) (by omega) (by decide)) (px_be hb4 (px_bl rfl (by omega) ⟨pk_in b 8 (by omega) (pq_0i b), ⟨by decide, ?_⟩⟩))
    rw [pq_0i, nI_clamp (by omega), h2 b (Nat.le_refl _), hq3, pq_pred hq2]
    refine px_ce (q := pq_q x_coefs b) (p := (3 * pq_k x_energies b + 2) / 4) rfl hq1 (by omega) hE (by omega) ?_
    refine px_search rfl hb4 hc hk ?_
    intro pu' g1 g2
    have ix : pq_id x_coefs x_pulseCounts b = pq_ix (fun j => pu' (8 * b + j)) 0 8 (pq_k x_pulseCounts b) := (pq_ix_ext 8 0 _ (fun j _ hj => g1 j (by omega))).symm
    have iM : pq_M (fun j => pu' (8 * b + j)) 0 8 = pq_k x_pulseCounts b := by
      rw [pq_M_ext 8 0 (fun j _ hj => g1 j (by omega))]
      exact pq_yv_M x_coefs b k2
    refine px_cp hb4 ht hk hE2 (by omega) ix iM ⟨vp_in_nI (by omega) (by decide), nm_r (e' := upd en b (nI (pq_q x_coefs b))) rfl (nm_r (nI_1 b) (ih (b + 1) _ pu' (by omega) ?_ ?_ ?_ ?_))⟩
    · intro j hj
      by_cases z : j = b
      · subst z; exact pk_us
      · rw [pk_un z]; exact h1 j (by omega)
    · intro j hj
      rw [pk_un (by omega)]
      exact h2 j (by omega)
    · intro c j hc2 hj
      by_cases z : c = b
      · subst z; exact g1 j hj
      · rw [g2 _ (by omega)]; exact h3 c j (by omega) hj
    · intro i hi
      rw [g2 i (by omega)]
      exact h4 i (by omega)
theorem px_encode {post : Int32 → St2 → Prop} (hp : pq_B x_packet) (ht : pq_tb x_sizes) (hc : pq_HC x_coefs) (hk : pq_HK x_pulseCounts) (hq : pq_HQ x_energies)
    (K : ∀ en pu : Nat → Int32, (∀ j, j < 4 → en j = nI (pq_q x_coefs j)) → (∀ j, 4 ≤ j → en j = x_energies j) → (∀ c j, c < 4 → j < 8 → pu (8 * c + j) = pq_yv x_coefs c (pq_k x_pulseCounts c) j) → (∀ i, 32 ≤ i → pu i = x_pulses i) →
      post (nI (pq_fl 5 (pq_eb (pq_clr x_packet 64) x_coefs x_pulseCounts x_energies 4)).2.2.2.2.1) (nI ((pq_fl 5 (pq_eb (pq_clr x_packet 64) x_coefs x_pulseCounts x_energies 4))).2.2.2.2.1, lN ((pq_fl 5 (pq_eb (pq_clr x_packet 64) x_coefs x_pulseCounts x_energies 4))).1, lN ((pq_fl 5 (pq_eb (pq_clr x_packet 64) x_coefs x_pulseCounts x_energies 4))).2.1, nI ((pq_fl 5 (pq_eb (pq_clr x_packet 64) x_coefs x_pulseCounts x_energies 4))).2.2.1, nI ((pq_fl 5 (pq_eb (pq_clr x_packet 64) x_coefs x_pulseCounts x_energies 4))).2.2.2.1, x_readPosition, x_decoderRange, x_code, x_decoderStep, x_pulseCounts, x_coefs, en, pu, x_decoded, x_vec, x_sizes, ((pq_fl 5 (pq_eb (pq_clr x_packet 64) x_coefs x_pulseCounts x_energies 4))).2.2.2.2.2)) : wpX_encodeFrame post (x_length, x_low, x_encoderRange, x_cache, x_pending, x_readPosition, x_decoderRange, x_code, x_decoderStep, x_pulseCounts, x_coefs, x_energies, x_pulses, x_decoded, x_vec, x_sizes, x_packet) := by
  unfold wpX_encodeFrame
  dsimp only
  refine px_se (co := x_coefs) (pc := x_pulseCounts) (eq := x_energies) ⟨5, ?_⟩
  exact px_6 (pq_clr_B hp 64) ht hc hk hq K 4 0 x_energies x_pulses (by omega) (fun j h => absurd h (Nat.not_lt_zero j)) (fun _ _ => rfl) (fun c _ h => absurd h (Nat.not_lt_zero c)) (fun _ _ => rfl)
end PQA
end
section
/-! a frame, decoded -/
def pq_qf (dq pk : Nat → Int32) (le : Nat) (pc : Nat → Int32) (b : Nat) : Int32 := pq_cl ((3 * dq b + 2) / 4 + pq_rs (pq_ds (pq_db pk le pc b))) 0 33
def pq_qn (dq pk : Nat → Int32) (le : Nat) (pc : Nat → Int32) (b : Nat) : Nat := (pq_qf dq pk le pc b).toNatClampNeg
theorem pq_qf_s (dq pk : Nat → Int32) (le : Nat) (pc : Nat → Int32) (b : Nat) : pq_qf dq pk le pc b = nI (pq_qn dq pk le pc b) ∧ pq_qn dq pk le pc b ≤ 33 := by
  obtain ⟨q, h1, h2⟩ := pq_cl_s ((3 * dq b + 2) / 4 + pq_rs (pq_ds (pq_db pk le pc b)))
  have e : pq_qf dq pk le pc b = nI q := h2
  unfold pq_qn
  rw [e, nI_clamp (by omega)]
  exact ⟨rfl, h1⟩
theorem pq_M32 {q mm sq : Nat} (h1 : 1 ≤ q) (h2 : q ≤ 33) (h3 : mm ≤ sq) : 2 ^ (q - 1) * mm / sq ≤ 4294967296 ∧ 2 ^ (q - 1) ≤ 4294967296 := by
  have p : 2 ^ (q - 1) ≤ 2 ^ 32 := Nat.pow_le_pow_right (by decide) (by omega)
  have m : 2 ^ (q - 1) * mm ≤ sq * 2 ^ (q - 1) := by rw [Nat.mul_comm sq]; exact Nat.mul_le_mul_left _ h3
  have d : 2 ^ (q - 1) * mm / sq ≤ 2 ^ (q - 1) := Nat.div_le_of_le_mul m
  exact ⟨Nat.le_trans d p, p⟩
theorem pq_pw {y : Int32} {q : Nat} (h1 : 1 ≤ q) (h2 : q ≤ 33) : ((1 : Int64) <<< ((nI q - 1).toInt64 &&& 63)) * y.toInt64 * y.toInt64 = lN (2 ^ (q - 1) * (pq_mg y * pq_mg y)) := by
  rw [pq_i1 h1, Int64.mul_assoc, pq_mgL]
  show lN 1 <<< ((nI (q - 1)).toInt64 &&& 63) * _ = _
  rw [wb_shl 1 (by omega), Nat.one_mul, lN_mul]
theorem pq_pwb {q m : Nat} (h1 : 1 ≤ q) (h2 : q ≤ 33) (hm : m ≤ 16) : 2 ^ (q - 1) * (m * m) < 2 ^ 63 := by
  have p : 2 ^ (q - 1) ≤ 2 ^ 32 := Nat.pow_le_pow_right (by decide) (by omega)
  have a : m * m ≤ 16 * 16 := Nat.mul_le_mul hm hm
  have b : 2 ^ (q - 1) * (m * m) ≤ 2 ^ 32 * (16 * 16) := Nat.mul_le_mul p a
  omega
theorem pq_mg0 {y : Int32} (h : pq_mg y = 0) : y = 0 := by
  have c : ¬ y < 0 := fun z => by have := pq_mg_1 z; omega
  rw [pq_mg_p c, h]
  rfl
theorem pq_nmg0 {y : Int32} (h : ¬ y = 0) : 1 ≤ pq_mg y := by
  by_cases z : pq_mg y = 0
  · exact absurd (pq_mg0 z) h
  · omega
theorem pq_sc_0 {y : Int32} {q sq : Nat} (h : q = 0 ∨ y = 0) : pq_sc y q sq = 0 := if_pos h
theorem pq_sc_n {y : Int32} {q sq : Nat} (h1 : 1 ≤ q) (h2 : ¬ y = 0) (h3 : y < 0) : pq_sc y q sq = -nI (pq_rt (2 ^ (q - 1) * (pq_mg y * pq_mg y) / sq)) := by
  unfold pq_sc
  rw [if_neg (by intro z; cases z with | inl a => omega | inr a => exact h2 a), if_pos h3]
theorem pq_sc_p {y : Int32} {q sq : Nat} (h1 : 1 ≤ q) (h2 : ¬ y = 0) (h3 : ¬ y < 0) : pq_sc y q sq = nI (pq_rt (2 ^ (q - 1) * (pq_mg y * pq_mg y) / sq)) := by
  unfold pq_sc
  rw [if_neg (by intro z; cases z with | inl a => omega | inr a => exact h2 a), if_neg h3]
theorem pq_clN {X V : Nat} (h1 : 1 ≤ V) (hX : X < 2 ^ 31) (hV : V < 2 ^ 31) : pq_cl (nI X) 0 (nI (V - 1)) = nI (if V - 1 < X then V - 1 else X) := by
  unfold pq_cl
  rw [if_neg (nI_pos hX)]
  by_cases c : V - 1 < X
  · rw [if_pos c, if_pos (nI_lt c hX)]
  · rw [if_neg c, if_neg (nI_nlt (by omega) (by omega))]
theorem pq_hlo {h ap l V : Nat} (h1 : h ≤ 65535) (h2 : ap ≤ 8) (h3 : l < 2 ^ ap) : h * 2 ^ ap + l < 2 ^ 26 ∧ h * 2 ^ ap < 2 ^ 26 := by
  have p : 2 ^ ap ≤ 2 ^ 8 := Nat.pow_le_pow_right (by decide) h2
  have m : h * 2 ^ ap ≤ 65535 * 2 ^ 8 := Nat.mul_le_mul h1 p
  omega
theorem pq_shlV {a ap : Nat} (h : a * 2 ^ ap < 2 ^ 26) (hp : ap ≤ 8) : nI a <<< (nI ap &&& 31) = nI (a * 2 ^ ap) := pk_shlN _ _ (s_l ap (by omega)) (by omega)
section PQX
variable {x_length x_cache x_pending x_readPosition : Int32} {x_low x_encoderRange x_decoderRange x_code x_decoderStep : Int64} {x_pulseCounts x_coefs x_energies x_pulses x_decoded x_vec x_sizes x_packet : Nat → Int32}
variable {b : Nat} {pk : Nat → Int32} {le : Nat}
theorem px_67 {post : St2 → Prop} {k r : Nat} (hb : b < 4) (ht : pq_tb x_sizes) (hk : k ≤ 16) (hr : r < pq_V 8 k)
    (K : ∀ p : Nat → Int32, (∀ t, t < 8 → p (32 + 8 * b + t) = pq_y 8 k r t) → (∀ j, (j < 32 + 8 * b ∨ 32 + 8 * b + 8 ≤ j) → p j = x_pulses j) → post (x_length, x_low, x_encoderRange, x_cache, x_pending, x_readPosition, x_decoderRange, x_code, x_decoderStep, x_pulseCounts, x_coefs, x_energies, p, x_decoded, x_vec, x_sizes, x_packet)) : wX_decodePulses_67 post (nI b) (nI k) (nI r) x_length x_low x_encoderRange x_cache x_pending x_readPosition x_decoderRange x_code x_decoderStep x_pulseCounts x_coefs x_energies x_pulses x_decoded x_vec x_sizes x_packet := by
  unfold wX_decodePulses_67
  refine px_pulsesun (fr := 32 + 8 * b) (n := 8) (k := k) (r := r) ht (by omega) (by omega) hk hr ?_ rfl rfl rfl K
  rw [pq_b8, show (32 : Int32) = nI 32 from rfl, nI_add]
theorem px_dp {post : St2 → Prop} {B : Nat} {d : pq_D} (hb : b < 4) (hB : pq_B pk) (hl : le ≤ 64) (ht : pq_tb x_sizes) (hk : pq_HK x_pulseCounts) (hD : pq_DI B d) (hBB : B + 4 < 2 ^ 20)
    (K : ∀ (ds : Int64) (p : Nat → Int32), (∀ t, t < 8 → p (32 + 8 * b + t) = pq_y 8 (pq_k x_pulseCounts b) (pq_dp pk le d (pq_k x_pulseCounts b)).1 t) → (∀ j, (j < 32 + 8 * b ∨ 32 + 8 * b + 8 ≤ j) → p j = x_pulses j) →
      post (nI le, x_low, x_encoderRange, x_cache, x_pending, nI (((pq_dp pk le d (pq_k x_pulseCounts b)).2)).1, lN (((pq_dp pk le d (pq_k x_pulseCounts b)).2)).2.1, lN (((pq_dp pk le d (pq_k x_pulseCounts b)).2)).2.2, ds, x_pulseCounts, x_coefs, x_energies, p, x_decoded, x_vec, x_sizes, pk)) : wpX_decodePulses post (nI le, x_low, x_encoderRange, x_cache, x_pending, nI d.1, lN d.2.1, lN d.2.2, x_decoderStep, x_pulseCounts, x_coefs, x_energies, x_pulses, x_decoded, x_vec, x_sizes, pk) (nI b) := by
  have ⟨k1, k2, k3⟩ := pq_k_s hk hb
  have hV := pq_Vle (n := 8) (k := pq_k x_pulseCounts b) (by omega) k2
  have hp := pq_Vpos (pq_k x_pulseCounts b) (by omega)
  have ⟨hx, _⟩ := pq_dp_s pk le hD k2
  generalize pq_k x_pulseCounts b = k at *
  refine ⟨vp_in_nI hb (by decide), nm_r (e' := nI k) (by rw [nI_clamp (by omega)]; exact k3) (px_size (n := 8) (k := k) ht (by omega) k2 rfl rfl (px_low k2 rfl ?_))⟩
  unfold pq_dp at K hx
  by_cases c : pq_V 8 k ≤ 65536
  · rw [if_pos c] at K hx
    have a0 : pq_ap k = 0 := if_pos c
    rw [a0]
    have et : (nI (pq_V 8 k) - 1) >>> (nI 0 &&& 31) + 1 = nI (pq_V 8 k) := by
      rw [pq_i1 hp, pq_shV (by omega) (by omega), nI_1, Nat.pow_zero, Nat.div_one, Nat.sub_add_cancel hp]
    refine px_du hB hl hD (by omega) hp c et (br_t (by decide) (px_67 hb ht k2 hx ?_))
    intro p g1 g2
    exact K _ p g1 g2
  · rw [if_neg c] at K hx
    have ⟨a1, a2, a3, a4⟩ := pq_ap_s k (by omega) (by omega)
    have ⟨p1, p2⟩ := pq_ap_p _ a2
    have et : (nI (pq_V 8 k) - 1) >>> (nI (pq_ap k) &&& 31) + 1 = nI ((pq_V 8 k - 1) / 2 ^ pq_ap k + 1) := by
      rw [pq_i1 hp, pq_shV (by omega) a2, nI_1]
    have hv := pq_dv_lt (d := d) (total := (pq_V 8 k - 1) / 2 ^ pq_ap k + 1) (Nat.succ_pos _)
    have D1 := pq_dc_s pk le (total := (pq_V 8 k - 1) / 2 ^ pq_ap k + 1) (start := pq_dv d ((pq_V 8 k - 1) / 2 ^ pq_ap k + 1)) hD (Nat.succ_pos _) a3 (Nat.le_refl 1) (Nat.succ_pos _)
    have hv2 := pq_dv_lt (d := pq_dc pk le d ((pq_V 8 k - 1) / 2 ^ pq_ap k + 1) (pq_dv d ((pq_V 8 k - 1) / 2 ^ pq_ap k + 1)) 1) (total := 2 ^ pq_ap k) p1
    have ⟨l1, l2⟩ := pq_hlo (V := 0) (Nat.le_of_lt_succ (Nat.lt_of_lt_of_le hv a3)) a2 hv2
    refine px_du (total := (pq_V 8 k - 1) / 2 ^ pq_ap k + 1) hB hl hD (by omega) (Nat.succ_pos _) a3 et (br_f (nI_nle (by omega) (by omega)) (px_du hB hl D1 (by omega) p1 (Nat.le_trans p2 (by decide)) (pq_p2 _ a2) (px_clamp ?_)))
    rw [pq_shlV l2 a2, nI_add, pq_i1 hp, pq_clN hp (by omega) (by omega)]
    refine px_67 hb ht k2 hx ?_
    intro p g1 g2
    exact K _ p g1 g2
theorem px_sp {post : Int32 → Prop} {y : Int32} {q sq : Nat} (hq : q ≤ 33) (hy : pq_mg y ≤ 16) (hs : pq_mg y * pq_mg y ≤ sq) (hs2 : sq < 2 ^ 31) (h : post (pq_sc y q sq)) : wpX_scaledPulse post () y (nI q) (lN sq) := by
  by_cases z : q = 0
  · rw [pq_sc_0 (Or.inl z)] at h
    exact br_t (by rw [z]; rfl) h
  · refine br_f (nI_ne0 (by omega) (by omega)) ?_
    by_cases w : y = 0
    · rw [pq_sc_0 (Or.inr w)] at h
      exact br_t w h
    · have m1 := pq_nmg0 w
      have m2 : 1 ≤ pq_mg y * pq_mg y := Nat.mul_pos m1 m1
      have ⟨M1, M2⟩ := pq_M32 (q := q) (by omega) hq hs
      refine br_f w (nm_r (pq_pw (by omega) hq) (px_quo rfl rfl (pq_pwb (by omega) hq hy) (by omega) (by omega) (px_sq rfl (by omega) ?_)))
      by_cases c : y < 0
      · rw [pq_sc_n (by omega) w c] at h
        exact br_f (pq_nle0 c) h
      · rw [pq_sc_p (by omega) w c] at h
        exact br_t (pq_nlt0 c) h
theorem px_52 {post : St2 → Prop} {Y : Nat → Int32} {q sq : Nat} (hb : b < 4) (hq : q ≤ 33) (hY : ∀ t, t < 8 → x_pulses (32 + 8 * b + t) = Y t) (hm : ∀ t, t < 8 → pq_mg (Y t) ≤ 16) (hs : ∀ t, t < 8 → pq_mg (Y t) * pq_mg (Y t) ≤ sq) (hs2 : sq < 2 ^ 31)
    (K : ∀ de : Nat → Int32, (∀ j, j < 8 → de (8 * b + j) = pq_sc (Y j) q sq) → (∀ i, (i < 8 * b ∨ 8 * b + 8 ≤ i) → de i = x_decoded i) → post (x_length, x_low, x_encoderRange, x_cache, x_pending, x_readPosition, x_decoderRange, x_code, x_decoderStep, x_pulseCounts, x_coefs, x_energies, x_pulses, de, x_vec, x_sizes, x_packet)) : ∀ d j (de : Nat → Int32), j + d = 8 → (∀ t, t < j → de (8 * b + t) = pq_sc (Y t) q sq) → (∀ i, (i < 8 * b ∨ 8 * b + 8 ≤ i) → de i = x_decoded i) →
    wX_scaleBand_52 post (nI q) (nI (8 * b)) (lN sq) x_length x_low x_encoderRange x_cache x_pending x_readPosition x_decoderRange x_code x_decoderStep (d + 1) (nI j) x_pulseCounts x_coefs x_energies x_pulses de x_vec x_sizes x_packet := by
  intro d
  induction d with
  | zero =>
    intro j de hj h1 h2
    have e : j = 8 := by omega
    subst e
    exact br_t (nI_le (a := 8) (Nat.le_refl _) (by decide)) (K de h1 h2)
  | succ d ih =>
    intro j de hj h1 h2
    have e1 : 32 + nI (8 * b) + nI j = nI (32 + 8 * b + j) := by rw [show (32 : Int32) = nI 32 from rfl, nI_add, nI_add]
    refine br_f (nI_ge (b := 8) (by omega) (by decide)) ⟨pk_in (32 + 8 * b + j) 64 (by omega) e1, nm_r (e' := Y j) (by rw [e1, nI_clamp (by omega), hY j (by omega)]) (px_sp hq (hm j (by omega)) (hs j (by omega)) hs2 ⟨pk_in (8 * b + j) 32 (by omega) (nI_add _ _), nm_r (e' := upd de (8 * b + j) (pq_sc (Y j) q sq)) (by rw [nI_add, nI_clamp (by omega)]) (nm_r (nI_1 j) (ih (j + 1) _ (by omega) ?_ ?_))⟩)⟩
    · intro t ht
      by_cases z : t = j
      · subst z; exact pk_us
      · rw [pk_un (by omega)]; exact h1 t (by omega)
    · intro i hi
      rw [pk_un (by omega)]
      exact h2 i hi
theorem px_11 {post : St2 → Prop} {Y : Nat → Int32} {q : Nat} (hb : b < 4) (hq : q ≤ 33) (hY : ∀ t, t < 8 → x_pulses (32 + 8 * b + t) = Y t) (hm : ∀ t, t < 8 → pq_mg (Y t) ≤ 16)
    (K : ∀ de : Nat → Int32, (∀ j, j < 8 → de (8 * b + j) = pq_sc (Y j) q (pq_S (fun j => pq_mg (Y j) * pq_mg (Y j)) 8)) → (∀ i, (i < 8 * b ∨ 8 * b + 8 ≤ i) → de i = x_decoded i) → post (x_length, x_low, x_encoderRange, x_cache, x_pending, x_readPosition, x_decoderRange, x_code, x_decoderStep, x_pulseCounts, x_coefs, x_energies, x_pulses, de, x_vec, x_sizes, x_packet)) : ∀ d j, j + d = 8 →
    wX_scaleBand_11 post (nI q) (nI (8 * b)) x_length x_low x_encoderRange x_cache x_pending x_readPosition x_decoderRange x_code x_decoderStep x_pulseCounts x_coefs x_energies x_pulses x_decoded x_vec x_sizes x_packet (d + 1) (lN (pq_S (fun j => pq_mg (Y j) * pq_mg (Y j)) j)) (nI j) := by
  have hS : pq_S (fun j => pq_mg (Y j) * pq_mg (Y j)) 8 ≤ 8 * (16 * 16) := pq_S_le _ _ 8 (fun j hj => Nat.mul_le_mul (hm j hj) (hm j hj))
  intro d
  induction d with
  | zero =>
    intro j hj
    have e : j = 8 := by omega
    subst e
    exact br_t (nI_le (a := 8) (Nat.le_refl _) (by decide)) ⟨9, px_52 hb hq hY hm (fun t ht => pq_S_ge (fun j => pq_mg (Y j) * pq_mg (Y j)) ht) (by omega) K 8 0 x_decoded (by omega) (fun t h => absurd h (Nat.not_lt_zero t)) (fun _ _ => rfl)⟩
  | succ d ih =>
    intro j hj
    have e1 : 32 + nI (8 * b) + nI j = nI (32 + 8 * b + j) := by rw [show (32 : Int32) = nI 32 from rfl, nI_add, nI_add]
    refine br_f (nI_ge (b := 8) (by omega) (by decide)) ⟨pk_in (32 + 8 * b + j) 64 (by omega) e1, nm_r (e' := (Y j).toInt64) (by rw [e1, nI_clamp (by omega), hY j (by omega)]) (nm_r ?_ (nm_r (nI_1 j) (ih (j + 1) (by omega))))⟩
    rw [pq_mgL, lN_add]
    rfl
theorem px_scale {post : St2 → Prop} {Y : Nat → Int32} {q : Nat} {p1 : Int32} (e1 : p1 = nI q) (hb : b < 4) (hq : q ≤ 33) (hY : ∀ t, t < 8 → x_pulses (32 + 8 * b + t) = Y t) (hm : ∀ t, t < 8 → pq_mg (Y t) ≤ 16)
    (K : ∀ de : Nat → Int32, (∀ j, j < 8 → de (8 * b + j) = pq_sc (Y j) q (pq_S (fun j => pq_mg (Y j) * pq_mg (Y j)) 8)) → (∀ i, (i < 8 * b ∨ 8 * b + 8 ≤ i) → de i = x_decoded i) → post (x_length, x_low, x_encoderRange, x_cache, x_pending, x_readPosition, x_decoderRange, x_code, x_decoderStep, x_pulseCounts, x_coefs, x_energies, x_pulses, de, x_vec, x_sizes, x_packet)) : wpX_scaleBand post (x_length, x_low, x_encoderRange, x_cache, x_pending, x_readPosition, x_decoderRange, x_code, x_decoderStep, x_pulseCounts, x_coefs, x_energies, x_pulses, x_decoded, x_vec, x_sizes, x_packet) (nI b) p1 := by
  subst e1
  exact nm_r (pq_b8 b) ⟨9, px_11 hb hq hY hm K 8 0 (by omega)⟩
/-- what a frame decodes to, bands below n -/
def pq_fin (dq pk : Nat → Int32) (le : Nat) (pc : Nat → Int32) (n : Nat) (en pu de : Nat → Int32) : Prop :=
  (∀ c, c < n → en c = pq_qf dq pk le pc c) ∧ (∀ c j, c < n → j < 8 → pu (8 * c + j) = pq_y 8 (pq_k pc c) (pq_xi pk le pc c) j) ∧
  (∀ c j, c < n → j < 8 → de (8 * c + j) = pq_sc (pq_y 8 (pq_k pc c) (pq_xi pk le pc c) j) (pq_qn dq pk le pc c) (pq_z 8 (pq_k pc c) (pq_xi pk le pc c)))
theorem px_d6 {post : St2 → Prop} (hB : pq_B pk) (hl : le ≤ 64) (ht : pq_tb x_sizes) (hk : pq_HK x_pulseCounts)
    (K : ∀ (ds : Int64) (en pu de : Nat → Int32), pq_fin (fun j => x_energies (4 + j)) pk le x_pulseCounts 4 (fun j => en (4 + j)) (fun j => pu (32 + j)) de → (∀ j, j < 4 → en j = x_energies j) → (∀ i, i < 32 → pu i = x_pulses i) →
      post (nI le, x_low, x_encoderRange, x_cache, x_pending, nI ((pq_db pk le x_pulseCounts 4)).1, lN ((pq_db pk le x_pulseCounts 4)).2.1, lN ((pq_db pk le x_pulseCounts 4)).2.2, ds, x_pulseCounts, x_coefs, en, pu, de, x_vec, x_sizes, pk)) :
    ∀ d b (ds : Int64) (en pu de : Nat → Int32), b + d = 4 → pq_fin (fun j => x_energies (4 + j)) pk le x_pulseCounts b (fun j => en (4 + j)) (fun j => pu (32 + j)) de → (∀ j, (j < 4 ∨ 4 + b ≤ j) → en j = x_energies j) → (∀ i, i < 32 → pu i = x_pulses i) →
    wX_decodeFrame_6 post (d + 1) (nI b) (nI le) x_low x_encoderRange x_cache x_pending (nI ((pq_db pk le x_pulseCounts b)).1) (lN ((pq_db pk le x_pulseCounts b)).2.1) (lN ((pq_db pk le x_pulseCounts b)).2.2) ds x_pulseCounts x_coefs en pu de x_vec x_sizes pk := by
  intro d
  induction d with
  | zero =>
    intro b ds en pu de hb h1 h2 h3
    have e : b = 4 := by omega
    subst e
    exact br_t (nI_le (a := 4) (Nat.le_refl _) (by decide)) (K ds en pu de h1 (fun j hj => h2 j (Or.inl hj)) h3)
  | succ d ih =>
    intro b ds en pu de hb h1 h2 h3
    have hb4 : b < 4 := by omega
    have hD := pq_db_s pk le hk b (by omega)
    have hD2 := pq_de_s pk le hD
    have ⟨k1, k2, k3⟩ := pq_k_s hk hb4
    have hx := pq_xi_lt pk le hk hb4
    have ⟨q1, q2⟩ := pq_qf_s (fun j => x_energies (4 + j)) pk le x_pulseCounts b
    have e4 : 4 + nI b = nI (4 + b) := nI_add 4 b
    refine br_f (nI_ge (b := 4) (by omega) (by decide)) ⟨pk_in (4 + b) 8 (by omega) e4, ⟨by decide, ?_⟩⟩
    rw [e4, nI_clamp (by omega), h2 (4 + b) (Or.inr (Nat.le_refl _))]
    refine px_de hB hl hD (by omega) (px_clamp (px_dp hb4 hB hl ht hk hD2 (by omega) ?_))
    intro ds' pu' g1 g2
    refine ⟨vp_in_nI (by omega) (by decide), nm_r (e' := upd en (4 + b) (pq_qf (fun j => x_energies (4 + j)) pk le x_pulseCounts b)) rfl ?_⟩
    refine px_scale (Y := pq_y 8 (pq_k x_pulseCounts b) (pq_xi pk le x_pulseCounts b)) q1 hb4 q2 g1 (fun t ht => pq_y_mg (by omega) k2 hx ht) ?_
    intro de' f1 f2
    refine nm_r (nI_1 b) (ih (b + 1) ds' _ pu' de' (by omega) ⟨?_, ?_, ?_⟩ ?_ ?_)
    · intro c hc
      by_cases z : c = b
      · subst z; exact pk_us
      · show upd en (4 + b) _ (4 + c) = _
        rw [pk_un (by omega)]; exact h1.1 c (by omega)
    · intro c j hc hj
      by_cases z : c = b
      · subst z
        have := g1 j hj
        rw [Nat.add_assoc] at this
        exact this
      · show pu' (32 + (8 * c + j)) = _
        rw [g2 _ (by omega)]; exact h1.2.1 c j (by omega) hj
    · intro c j hc hj
      by_cases z : c = b
      · subst z; exact f1 j hj
      · rw [f2 _ (by omega)]; exact h1.2.2 c j (by omega) hj
    · intro j hj
      rw [pk_un (by omega)]
      exact h2 j (by omega)
    · intro i hi
      rw [g2 i (by omega)]
      exact h3 i hi
theorem px_decode {post : St2 → Prop} (hB : pq_B pk) (hl : le ≤ 64) (ht : pq_tb x_sizes) (hk : pq_HK x_pulseCounts)
    (K : ∀ (ds : Int64) (en pu de : Nat → Int32), pq_fin (fun j => x_energies (4 + j)) pk le x_pulseCounts 4 (fun j => en (4 + j)) (fun j => pu (32 + j)) de → (∀ j, j < 4 → en j = x_energies j) → (∀ i, i < 32 → pu i = x_pulses i) →
      post (nI le, x_low, x_encoderRange, x_cache, x_pending, nI ((pq_db pk le x_pulseCounts 4)).1, lN ((pq_db pk le x_pulseCounts 4)).2.1, lN ((pq_db pk le x_pulseCounts 4)).2.2, ds, x_pulseCounts, x_coefs, en, pu, de, x_vec, x_sizes, pk)) : wpX_decodeFrame post (nI le, x_low, x_encoderRange, x_cache, x_pending, x_readPosition, x_decoderRange, x_code, x_decoderStep, x_pulseCounts, x_coefs, x_energies, x_pulses, x_decoded, x_vec, x_sizes, pk) := by
  unfold wpX_decodeFrame
  dsimp only
  refine px_sd hB hl ⟨5, ?_⟩
  exact px_d6 hB hl ht hk K 4 0 x_decoderStep x_energies x_pulses x_decoded (by omega) ⟨fun c h => absurd h (Nat.not_lt_zero c), fun c _ h => absurd h (Nat.not_lt_zero c), fun c _ h => absurd h (Nat.not_lt_zero c)⟩ (fun _ _ => rfl) (fun _ _ => rfl)
end PQX
end
section
/-! the constructors -/
def pq_tu (m : Nat) (t : Nat → Int32) : Prop := ∀ j, j < m → t j = nI (pq_t j)
theorem pq_tu_s {m : Nat} {t : Nat → Int32} (h : pq_tu m t) : pq_tu (m + 1) (upd t m (nI (pq_t m))) := by
  intro j hj
  by_cases e : j = m
  · subst e; exact pk_us
  · rw [pk_un e]; exact h j (by omega)
theorem pq_tu_V {m : Nat} {t : Nat → Int32} (h : pq_tu m t) {n k : Nat} (hm : n * 17 + k < m) : t (n * 17 + k) = nI (pq_V n k) := h _ hm
theorem pq_tu_17 : ∀ j, j < 17 → upd (fun _ => (0 : Int32)) 0 1 j = nI (pq_t j) := by decide +kernel
theorem pq_t0 : ∀ j, j < 17 → nI (pq_t j) = if j = 0 then 1 else 0 := by decide +kernel
section PQN
variable {x_length x_cache x_pending x_readPosition : Int32} {x_low x_encoderRange x_decoderRange x_code x_decoderStep : Int64} {x_pulseCounts x_coefs x_energies x_pulses x_decoded x_vec x_sizes x_packet : Nat → Int32}
theorem px_f19 {post : St2 → Prop} {J : Int32 → (Nat → Int32) → (Nat → Int32) → (Nat → Int32) → (Nat → Int32) → (Nat → Int32) → (Nat → Int32) → (Nat → Int32) → (Nat → Int32) → Prop} {n : Nat} (hn : n < 8)
    (K : ∀ t : Nat → Int32, pq_tu ((n + 1) * 17 + 17) t → J (nI (n + 1 + 1)) x_pulseCounts x_coefs x_energies x_pulses x_decoded x_vec t x_packet) : ∀ d k (t : Nat → Int32), k + d = 17 → pq_tu ((n + 1) * 17 + k) t →
    wX_fillSizes_19 post J (nI (n + 1)) x_length x_low x_encoderRange x_cache x_pending x_readPosition x_decoderRange x_code x_decoderStep (d + 1) (nI (pq_S (pq_V n) k)) (nI k) x_pulseCounts x_coefs x_energies x_pulses x_decoded x_vec t x_packet := by
  intro d
  induction d with
  | zero =>
    intro k t hk ht
    have e : k = 17 := by omega
    subst e
    exact br_t (nI_lt (a := 16) (by decide) (by decide)) (nm_r (nI_1 (n + 1)) (K t ht))
  | succ d ih =>
    intro k t hk ht
    have e1 : (nI (n + 1) - 1) * 17 + nI k = nI (n * 17 + k) := by rw [nI_pred, pq_i17]
    refine br_f (nI_nlt (a := 16) (by omega) (by decide)) ⟨pk_in (n * 17 + k) 153 (by omega) e1, nm_r (e' := nI (pq_V n k)) (by rw [e1, nI_clamp (by omega), pq_tu_V ht (by omega)]) ⟨pk_in ((n + 1) * 17 + k) 153 (by omega) (pq_i17 _ _), nm_r (e' := upd t ((n + 1) * 17 + k) (nI (pq_t ((n + 1) * 17 + k)))) ?_ (nm_r (nI_add _ _) (nm_r (nI_1 k) (ih (k + 1) _ (by omega) (pq_tu_s ht))))⟩⟩
    rw [pq_i17, nI_clamp (by omega), pq_2i, nI_add, ← pq_row n hn k (by omega)]
    rfl
theorem px_f9 {post : St2 → Prop} (K : ∀ t : Nat → Int32, pq_tb t → post (x_length, x_low, x_encoderRange, x_cache, x_pending, x_readPosition, x_decoderRange, x_code, x_decoderStep, x_pulseCounts, x_coefs, x_energies, x_pulses, x_decoded, x_vec, t, x_packet)) : ∀ d n (t : Nat → Int32), n + d = 8 → pq_tu ((n + 1) * 17) t →
    wX_fillSizes_9 post x_length x_low x_encoderRange x_cache x_pending x_readPosition x_decoderRange x_code x_decoderStep (d + 1) (nI (n + 1)) x_pulseCounts x_coefs x_energies x_pulses x_decoded x_vec t x_packet := by
  intro d
  induction d with
  | zero =>
    intro n t hn ht
    have e : n = 8 := by omega
    subst e
    exact br_t (nI_lt (a := 8) (by decide) (by decide)) (K t ht)
  | succ d ih =>
    intro n t hn ht
    refine br_f (nI_nlt (a := 8) (by omega) (by decide)) ⟨18, px_f19 (n := n) (by omega) ?_ 17 0 t (by omega) ht⟩
    intro t' ht'
    refine ih (n + 1) t' (by omega) ?_
    have e : (n + 1 + 1) * 17 = (n + 1) * 17 + 17 := by omega
    rw [e]
    exact ht'
theorem px_fill {post : St2 → Prop} (K : ∀ t : Nat → Int32, pq_tb t → post (x_length, x_low, x_encoderRange, x_cache, x_pending, x_readPosition, x_decoderRange, x_code, x_decoderStep, x_pulseCounts, x_coefs, x_energies, x_pulses, x_decoded, x_vec, t, x_packet)) : wpX_fillSizes post (x_length, x_low, x_encoderRange, x_cache, x_pending, x_readPosition, x_decoderRange, x_code, x_decoderStep, x_pulseCounts, x_coefs, x_energies, x_pulses, x_decoded, x_vec, (fun _ => 0), x_packet) :=
  nm_e ⟨9, px_f9 K 8 0 _ (by omega) pq_tu_17⟩
end PQN
end
section
section PQR
variable {x_length x_cache x_pending x_readPosition : Int32} {x_low x_encoderRange x_decoderRange x_code x_decoderStep : Int64} {x_pulseCounts x_coefs x_energies x_pulses x_decoded x_vec x_sizes x_packet : Nat → Int32}
variable {le : Nat} {pc co pk : Nat → Int32}
theorem pq_rng (x : Int32) {n m : Nat} (hn : n = m + 1) (h : n < 2 ^ 31) : x < 0 ∨ (¬ x < 0 ∧ ¬ x < nI n ∧ ¬ x ≤ nI m ∧ nI n ≤ x) ∨ ∃ j, j < n ∧ x = nI j := by
  cases pk_ix x h with
  | inl a => exact Or.inl a
  | inr a =>
    cases a with
    | inl a =>
      refine Or.inr (Or.inl ?_)
      have a2 := Int32.le_iff_toInt_le.mp a
      rw [nI_toInt h] at a2
      refine ⟨?_, ?_, ?_, a⟩
      · rw [Int32.lt_iff_toInt_lt, pq_z32]; omega
      · rw [Int32.lt_iff_toInt_lt, nI_toInt h]; omega
      · rw [Int32.le_iff_toInt_le, nI_toInt (by omega)]; omega
    | inr a => exact Or.inr (Or.inr a)
theorem pq_upR {f g : Nat → Int32} {N j : Nat} {z : Int32} (h : ∀ i, i < N → f i = g i) : ∀ i, i < N → upd f j z i = upd g j z i := by
  intro i hi
  by_cases e : i = j
  · subst e; rw [pk_us, pk_us]
  · rw [pk_un e, pk_un e]; exact h i hi
end PQR
end
section
/-! the vectors and the frames -/
theorem pq_M_S (a : Nat → Int32) : ∀ n i, pq_S (fun j => pq_mg (a j)) (i + n) = pq_S (fun j => pq_mg (a j)) i + pq_M a i n := by
  intro n
  induction n with
  | zero => intro i; rfl
  | succ n ih =>
    intro i
    have h := ih (i + 1)
    rw [show i + (n + 1) = i + 1 + n by omega, h]
    show pq_S (fun j => pq_mg (a j)) i + pq_mg (a i) + pq_M a (i + 1) n = pq_S (fun j => pq_mg (a j)) i + (pq_mg (a i) + pq_M a (i + 1) n)
    omega
theorem pq_M_0 (a : Nat → Int32) (n : Nat) : pq_M a 0 n = pq_S (fun j => pq_mg (a j)) n := by
  have h := pq_M_S a n 0
  rw [Nat.zero_add] at h
  rw [h]
  exact (Nat.zero_add _).symm
theorem pq_32 {f g : Nat → Int32} (h : ∀ c j, c < 4 → j < 8 → f (8 * c + j) = g (8 * c + j)) : ∀ i, i < 32 → f i = g i := by
  intro i hi
  have := h (i / 8) (i % 8) (by omega) (by omega)
  rw [Nat.div_add_mod] at this
  exact this
def pq_vi (a : Nat → Int32) (n : Nat) : Int32 := if pq_M a 0 n ≤ 16 then nI (pq_ix a 0 n (pq_M a 0 n)) else -1000000
theorem pq_qf_ext {dq dq' pk : Nat → Int32} {le : Nat} {pc : Nat → Int32} {b : Nat} (h : dq b = dq' b) : pq_qf dq pk le pc b = pq_qf dq' pk le pc b := by
  unfold pq_qf
  rw [h]
theorem pq_qn_ext {dq dq' pk : Nat → Int32} {le : Nat} {pc : Nat → Int32} {b : Nat} (h : dq b = dq' b) : pq_qn dq pk le pc b = pq_qn dq' pk le pc b := by
  unfold pq_qn
  rw [pq_qf_ext h]
section PQV
variable {x_length x_cache x_pending x_readPosition : Int32} {x_low x_encoderRange x_decoderRange x_code x_decoderStep : Int64} {x_pulseCounts x_coefs x_energies x_pulses x_decoded x_vec x_sizes x_packet : Nat → Int32}
variable {le : Nat} {pc co pk : Nat → Int32}
theorem px_vi18 {post : Int32 → Prop} {n : Nat} (hn : n ≤ 8) (ht : pq_tb x_sizes) (hv : ∀ i, i < 8 → pq_mg (x_vec i) ≤ 16) (h : post (pq_vi x_vec n)) : ∀ d i, i + d = n → wX_vecIndex_18 post (nI n) x_length x_low x_encoderRange x_cache x_pending x_readPosition x_decoderRange x_code x_decoderStep x_pulseCounts x_coefs x_energies x_pulses x_decoded x_vec x_sizes x_packet (d + 1) (nI (pq_S (fun j => pq_mg (x_vec j)) i)) (nI i) := by
  have hS : ∀ i, i ≤ n → pq_S (fun j => pq_mg (x_vec j)) i ≤ i * 16 := fun i hi => pq_S_le _ _ i (fun j hj => hv j (by omega))
  intro d
  induction d with
  | zero =>
    intro i hi
    have e : i = n := by omega
    subst e
    have hM := pq_M_0 x_vec i
    have hb := hS i (Nat.le_refl _)
    rw [← hM] at hb ⊢
    unfold pq_vi at h
    refine br_t (nI_le (Nat.le_refl _) (by omega)) ?_
    by_cases c : pq_M x_vec 0 i ≤ 16
    · rw [if_pos c] at h
      refine br_t (nI_le (b := 16) c (by decide)) (px_vecix (fr := 0) (n := i) (k := pq_M x_vec 0 i) ht hn (by omega) c ?_ rfl rfl rfl ?_)
      · exact pq_M_ext i 0 (fun j _ _ => by rw [Nat.zero_add])
      · rw [pq_ix_ext (a := fun j => x_vec (0 + j)) (c := x_vec) i 0 _ (fun j _ _ => by rw [Nat.zero_add])]
        exact h
    · rw [if_neg c] at h
      exact br_f (nI_ge (b := pq_M x_vec 0 i) (a := 16) (by omega) (by omega)) h
  | succ d ih =>
    intro i hi
    have hb := hS i (by omega)
    refine br_f (nI_ge (by omega) (by omega)) ⟨vp_in_nI (by omega) (by decide), ?_⟩
    rw [nI_clamp (by omega)]
    exact px_mag (nm_r (nI_add _ _) (nm_r (nI_1 i) (ih (i + 1) (by omega))))
theorem pq_vi_ext {a c : Nat → Int32} {n : Nat} (h : ∀ i, i < n → a i = c i) : pq_vi a n = pq_vi c n := by
  have e := pq_M_ext (a := a) (c := c) n 0 (fun j _ hj => h j (by omega))
  unfold pq_vi
  rw [e, pq_ix_ext (a := a) (c := c) n 0 _ (fun j _ hj => h j (by omega))]
theorem px_vu56 {post : Int32 → St2 → Prop} {n : Nat} {Y : Nat → Int32} (hn : n ≤ 8) (K : ∀ w : Nat → Int32, (∀ t, t < n → w t = Y t) → (∀ t, n ≤ t → t < 8 → w t = 0) → post 1 (x_length, x_low, x_encoderRange, x_cache, x_pending, x_readPosition, x_decoderRange, x_code, x_decoderStep, x_pulseCounts, x_coefs, x_energies, x_pulses, x_decoded, w, x_sizes, x_packet)) : ∀ d i (w : Nat → Int32), i + d = 8 → n ≤ i → (∀ t, t < n → w t = Y t) → (∀ t, n ≤ t → t < i → w t = 0) → wX_vecUnindex_56 post x_length x_low x_encoderRange x_cache x_pending x_readPosition x_decoderRange x_code x_decoderStep (d + 1) (nI i) x_pulseCounts x_coefs x_energies x_pulses x_decoded w x_sizes x_packet := by
  intro d
  induction d with
  | zero =>
    intro i w hi hi2 h1 h2
    have e : i = 8 := by omega
    subst e
    exact br_t (nI_le (a := 8) (Nat.le_refl _) (by decide)) (K w h1 h2)
  | succ d ih =>
    intro i w hi hi2 h1 h2
    refine br_f (nI_ge (b := 8) (by omega) (by decide)) ⟨vp_in_nI (by omega) (by decide), nm_r (e' := upd w i 0) (by rw [nI_clamp (by omega)]) (nm_r (nI_1 i) (ih (i + 1) _ (by omega) (by omega) ?_ ?_))⟩
    · intro t ht
      rw [pk_un (by omega)]
      exact h1 t ht
    · intro t ht1 ht2
      by_cases z : t = i
      · subst z; exact pk_us
      · rw [pk_un z]; exact h2 t ht1 (by omega)
end PQV
end
section
/-! the trip through the range coder -/
def pr_v (pk : Nat → Int32) : Nat → Nat
  | 0 => 0
  | i + 1 => pr_v pk i * 256 + (pk i).toNatClampNeg
theorem pr_v_u {pk : Nat → Int32} {n : Nat} {x : Int32} : ∀ i, i ≤ n → pr_v (upd pk n x) i = pr_v pk i := by
  intro i
  induction i with
  | zero => intro _; rfl
  | succ i ih =>
    intro h
    show pr_v (upd pk n x) i * 256 + (upd pk n x i).toNatClampNeg = pr_v pk i * 256 + (pk i).toNatClampNeg
    rw [ih (by omega), pk_un (by omega)]
theorem pr_em {x : Nat} {s : Nat × (Nat → Int32)} (hx : x < 256) (h : s.1 < 64) : (pq_em x s).1 = s.1 + 1 ∧ pr_v (pq_em x s).2 (pq_em x s).1 = pr_v s.2 s.1 * 256 + x := by
  unfold pq_em
  rw [if_pos h]
  refine ⟨rfl, ?_⟩
  show pr_v (upd s.2 s.1 (nI x)) s.1 * 256 + (upd s.2 s.1 (nI x) s.1).toNatClampNeg = _
  rw [pr_v_u s.1 (Nat.le_refl _), pk_us, nI_clamp (by omega)]
theorem pr_en1 {x : Nat} (hx : x < 256) : ∀ i (s : Nat × (Nat → Int32)), s.1 + i ≤ 64 → (pq_en x i s).1 = s.1 + i := by
  intro i
  induction i with
  | zero => intro s _; rfl
  | succ i ih =>
    intro s h
    have ⟨a, _⟩ := pr_em (x := x) (s := s) hx (by omega)
    show (pq_en x i (pq_em x s)).1 = _
    rw [ih _ (by omega)]
    omega
theorem pr_en255 : ∀ i (s : Nat × (Nat → Int32)), s.1 + i ≤ 64 → pr_v (pq_en 255 i s).2 (pq_en 255 i s).1 + 1 = (pr_v s.2 s.1 + 1) * 256 ^ i := by
  intro i
  induction i with
  | zero => intro s _; show pr_v s.2 s.1 + 1 = (pr_v s.2 s.1 + 1) * 1; omega
  | succ i ih =>
    intro s h
    have ⟨a, b⟩ := pr_em (x := 255) (s := s) (by omega) (by omega)
    show pr_v (pq_en 255 i (pq_em 255 s)).2 (pq_en 255 i (pq_em 255 s)).1 + 1 = _
    rw [ih _ (by omega), b, Nat.pow_succ, Nat.mul_comm (256 ^ i) 256, ← Nat.mul_assoc]
    congr 1
    omega
theorem pr_en0 : ∀ i (s : Nat × (Nat → Int32)), s.1 + i ≤ 64 → pr_v (pq_en 0 i s).2 (pq_en 0 i s).1 = pr_v s.2 s.1 * 256 ^ i := by
  intro i
  induction i with
  | zero => intro s _; show pr_v s.2 s.1 = pr_v s.2 s.1 * 1; omega
  | succ i ih =>
    intro s h
    have ⟨a, b⟩ := pr_em (x := 0) (s := s) (by omega) (by omega)
    show pr_v (pq_en 0 i (pq_em 0 s)).2 (pq_en 0 i (pq_em 0 s)).1 = _
    rw [ih _ (by omega), b, Nat.pow_succ, Nat.mul_comm (256 ^ i) 256, ← Nat.mul_assoc]
    congr 1
/-- the value of all that was coded, plus 2^32 -/
def pr_Z (e : pq_E) : Nat := (pr_v e.2.2.2.2.2 e.2.2.2.2.1 * 256 + e.2.2.1 + 1) * 256 ^ (e.2.2.2.1 - 1) * 4294967296 + e.1
/-- room for a carry, up to r above low -/
def pr_C (r : Nat) (e : pq_E) : Prop := 1 ≤ e.2.2.2.1 ∧ e.2.2.1 < 256 ∧ (e.2.2.1 + 1) * 256 ^ (e.2.2.2.1 - 1) * 4294967296 + e.1 + r ≤ 256 * 256 ^ (e.2.2.2.1 - 1) * 4294967296 + 4294967296 ∧ e.1 + r ≤ 8589934592 ∧ 1 ≤ r
def pr_N (e : pq_E) : Nat := e.2.2.2.2.1 + e.2.2.2.1
theorem pr_low {low : Nat} (h : low < 8589934592) : low = low / 4294967296 * 4294967296 + low / 16777216 % 256 * 16777216 + low % 16777216 ∧ low / 4294967296 ≤ 1 ∧ low / 16777216 % 256 < 256 ∧ low % 16777216 < 16777216 := by omega
theorem pr_sh {r : Nat} {e : pq_E} (h : pr_C r e) (hn : pr_N e ≤ 64) : pr_Z (pq_sh e) + 1095216660480 = pr_Z e * 256 ∧ pr_N (pq_sh e) = pr_N e + 1 := by
  obtain ⟨lo, rg, ca, pe, le, pk⟩ := e
  obtain ⟨h1, h2, h3, h4, h5⟩ := h
  dsimp only at h1 h2 h3 h4
  have hn2 : le + pe ≤ 64 := hn
  have hl := pr_low (low := lo) (by omega)
  by_cases c : lo < 4278190080 ∨ 4294967296 ≤ lo
  · have e1 : pq_sh (lo, rg, ca, pe, le, pk) = (lo % 16777216 * 256, rg, lo / 16777216 % 256, 1, pq_en ((255 + lo / 4294967296) % 256) (pe - 1) (pq_em ((ca + lo / 4294967296) % 256) (le, pk))) := if_pos c
    rw [e1]
    by_cases d : lo < 4294967296
    · have c0 : lo / 4294967296 = 0 := by omega
      have c1 : (255 + lo / 4294967296) % 256 = 255 := by omega
      have c2 : (ca + lo / 4294967296) % 256 = ca := by omega
      rw [c1, c2]
      have ⟨a1, a2⟩ := pr_em (x := ca) (s := (le, pk)) h2 (by show le < 64; omega)
      have a1' : (pq_em ca (le, pk)).1 = le + 1 := a1
      have b := pr_en255 (pe - 1) (pq_em ca (le, pk)) (by omega)
      have b1 := pr_en1 (x := 255) (by omega) (pe - 1) (pq_em ca (le, pk)) (by omega)
      rw [a2] at b
      have b' : pr_v (pq_en 255 (pe - 1) (pq_em ca (le, pk))).2 (pq_en 255 (pe - 1) (pq_em ca (le, pk))).1 + 1 = (pr_v pk le * 256 + ca + 1) * 256 ^ (pe - 1) := b
      refine ⟨?_, ?_⟩
      · show (pr_v (pq_en 255 (pe - 1) (pq_em ca (le, pk))).2 (pq_en 255 (pe - 1) (pq_em ca (le, pk))).1 * 256 + lo / 16777216 % 256 + 1) * 1 * 4294967296 + lo % 16777216 * 256 + 1095216660480 = ((pr_v pk le * 256 + ca + 1) * 256 ^ (pe - 1) * 4294967296 + lo) * 256
        rw [← b']
        generalize pr_v (pq_en 255 (pe - 1) (pq_em ca (le, pk))).2 (pq_en 255 (pe - 1) (pq_em ca (le, pk))).1 = v
        omega
      · show (pq_en 255 (pe - 1) (pq_em ca (le, pk))).1 + 1 = le + pe + 1
        rw [b1, a1']
        omega
    · have c0 : lo / 4294967296 = 1 := by omega
      have hc : ca + 1 < 256 := by
        by_cases z : 256 ≤ ca + 1
        · have m := Nat.mul_le_mul_right (256 ^ (pe - 1)) z
          omega
        · omega
      have c1 : (255 + lo / 4294967296) % 256 = 0 := by omega
      have c2 : (ca + lo / 4294967296) % 256 = ca + 1 := by omega
      rw [c1, c2]
      have ⟨a1, a2⟩ := pr_em (x := ca + 1) (s := (le, pk)) hc (by show le < 64; omega)
      have a1' : (pq_em (ca + 1) (le, pk)).1 = le + 1 := a1
      have b := pr_en0 (pe - 1) (pq_em (ca + 1) (le, pk)) (by omega)
      have b1 := pr_en1 (x := 0) (by omega) (pe - 1) (pq_em (ca + 1) (le, pk)) (by omega)
      rw [a2] at b
      have b' : pr_v (pq_en 0 (pe - 1) (pq_em (ca + 1) (le, pk))).2 (pq_en 0 (pe - 1) (pq_em (ca + 1) (le, pk))).1 = (pr_v pk le * 256 + ca + 1) * 256 ^ (pe - 1) := b
      refine ⟨?_, ?_⟩
      · show (pr_v (pq_en 0 (pe - 1) (pq_em (ca + 1) (le, pk))).2 (pq_en 0 (pe - 1) (pq_em (ca + 1) (le, pk))).1 * 256 + lo / 16777216 % 256 + 1) * 1 * 4294967296 + lo % 16777216 * 256 + 1095216660480 = ((pr_v pk le * 256 + ca + 1) * 256 ^ (pe - 1) * 4294967296 + lo) * 256
        rw [← b']
        generalize pr_v (pq_en 0 (pe - 1) (pq_em (ca + 1) (le, pk))).2 (pq_en 0 (pe - 1) (pq_em (ca + 1) (le, pk))).1 = v
        omega
      · show (pq_en 0 (pe - 1) (pq_em (ca + 1) (le, pk))).1 + 1 = le + pe + 1
        rw [b1, a1']
        omega
  · have e1 : pq_sh (lo, rg, ca, pe, le, pk) = (lo % 16777216 * 256, rg, ca, pe + 1, le, pk) := if_neg c
    rw [e1]
    refine ⟨?_, by show le + (pe + 1) = le + pe + 1; omega⟩
    have p : 256 ^ (pe + 1 - 1) = 256 ^ (pe - 1) * 256 := by
      rw [← Nat.pow_succ]
      congr 1
      omega
    show (pr_v pk le * 256 + ca + 1) * 256 ^ (pe + 1 - 1) * 4294967296 + lo % 16777216 * 256 + 1095216660480 = ((pr_v pk le * 256 + ca + 1) * 256 ^ (pe - 1) * 4294967296 + lo) * 256
    rw [p, ← Nat.mul_assoc]
    generalize (pr_v pk le * 256 + ca + 1) * 256 ^ (pe - 1) = T
    omega
theorem pr_C_le {r s : Nat} {e : pq_E} (h : pr_C r e) (hs : s ≤ r) (h1 : 1 ≤ s) : pr_C s e := by
  obtain ⟨a, b, c, d, _⟩ := h
  exact ⟨a, b, by omega, by omega, h1⟩
theorem pr_k0 {D R r s : Nat} (k : D + R + r ≤ 4294967296) (hs : s ≤ r * 256) : D * 256 + R * 256 + s ≤ 1099511627776 := by
  have h : (D + R + r) * 256 ≤ 4294967296 * 256 := Nat.mul_le_mul_right 256 k
  rw [Nat.add_mul, Nat.add_mul] at h
  exact Nat.le_trans (Nat.add_le_add_left hs _) h
theorem pr_m (T : Nat) : T * 4294967296 = T * 16777216 * 256 := by rw [Nat.mul_assoc]
theorem pr_k4 {A B s : Nat} (h : A + B + s ≤ 1099511627776) : A + 4294967296 + B + s ≤ 1103806595072 := by omega
theorem pr_k5 {A B R r s : Nat} (h : A + (4278190080 + R) + r ≤ B + 4294967296) (hs : s ≤ r * 256) : A * 256 + R * 256 + s ≤ B * 256 + 4294967296 := by
  have h2 : A + R + r ≤ B + 16777216 := by omega
  have h3 : (A + R + r) * 256 ≤ (B + 16777216) * 256 := Nat.mul_le_mul_right 256 h2
  rw [Nat.add_mul, Nat.add_mul, Nat.add_mul] at h3
  exact Nat.le_trans (Nat.add_le_add_left hs _) h3
theorem pr_k1 {lo r s T R C : Nat} (l : lo = C * 4294967296 + T * 16777216 + R) (hC : C ≤ 1) (hT : T < 256) (hR : R < 16777216) (hr : r < 16777216) (h4 : lo + r ≤ 8589934592) (c : lo < 4278190080 ∨ 4294967296 ≤ lo) (hs : s ≤ r * 256) : (T + 1) * 4294967296 + R * 256 + s ≤ 1103806595072 := by
  have k : T * 16777216 + R + r ≤ 4294967296 := by
    have c2 : C = 0 ∨ C = 1 := by omega
    cases c2 with
    | inl z => subst z; omega
    | inr z => subst z; omega
  have h := pr_k0 k hs
  rw [← pr_m] at h
  rw [Nat.add_mul, Nat.one_mul]
  exact pr_k4 h
theorem pr_k2 {lo r s T R P : Nat} (h : T * 4294967296 + lo + r ≤ P * 4294967296 + 4294967296) (l : lo = 4278190080 + R) (hs : s ≤ r * 256) : T * 256 * 4294967296 + R * 256 + s ≤ P * 256 * 4294967296 + 4294967296 := by
  rw [Nat.mul_right_comm T, Nat.mul_right_comm P]
  subst l
  exact pr_k5 h hs
theorem pr_k3 {lo : Nat} (h : ¬ (lo < 4278190080 ∨ 4294967296 ≤ lo)) : lo = 4278190080 + lo % 16777216 := by omega
/-- a shift keeps the room: behind a range below 2^24 times 256, or for one -/
theorem pr_C_sh {r s : Nat} {e : pq_E} (h : pr_C r e) (h1 : 1 ≤ s) (hs : s ≤ r * 256) (hr : r < 16777216) : pr_C s (pq_sh e) := by
  obtain ⟨lo, rg, ca, pe, le, pk⟩ := e
  obtain ⟨h1, h2, h3, h4, h5⟩ := h
  dsimp only at h1 h2 h3 h4
  have hl := pr_low (low := lo) (by omega)
  by_cases c : lo < 4278190080 ∨ 4294967296 ≤ lo
  · have e1 : pq_sh (lo, rg, ca, pe, le, pk) = (lo % 16777216 * 256, rg, lo / 16777216 % 256, 1, pq_en ((255 + lo / 4294967296) % 256) (pe - 1) (pq_em ((ca + lo / 4294967296) % 256) (le, pk))) := if_pos c
    rw [e1]
    refine ⟨Nat.le_refl _, by show lo / 16777216 % 256 < 256; omega, ?_, ?_, by assumption⟩
    · have k := pr_k1 hl.1 hl.2.1 hl.2.2.1 hl.2.2.2 hr h4 c hs
      show (lo / 16777216 % 256 + 1) * 256 ^ (1 - 1) * 4294967296 + lo % 16777216 * 256 + s ≤ 256 * 256 ^ (1 - 1) * 4294967296 + 4294967296
      rw [Nat.sub_self, Nat.pow_zero, Nat.mul_one]
      exact k
    · show lo % 16777216 * 256 + s ≤ 8589934592
      omega
  · have e1 : pq_sh (lo, rg, ca, pe, le, pk) = (lo % 16777216 * 256, rg, ca, pe + 1, le, pk) := if_neg c
    rw [e1]
    have p : 256 ^ (pe + 1 - 1) = 256 ^ (pe - 1) * 256 := by
      rw [← Nat.pow_succ]
      congr 1
      omega
    refine ⟨by show 1 ≤ pe + 1; omega, h2, ?_, ?_, by assumption⟩
    · show (ca + 1) * 256 ^ (pe + 1 - 1) * 4294967296 + lo % 16777216 * 256 + s ≤ 256 * 256 ^ (pe + 1 - 1) * 4294967296 + 4294967296
      rw [p, ← Nat.mul_assoc, ← Nat.mul_assoc 256]
      exact pr_k2 h3 (pr_k3 c) hs
    · show lo % 16777216 * 256 + s ≤ 8589934592
      omega
def pr_U (e : pq_E) : Nat := pr_Z e - 4294967296
theorem pr_ZU (e : pq_E) : pr_Z e = pr_U e + 4294967296 := by
  have h : 4294967296 ≤ pr_Z e := by
    have p : 1 ≤ (pr_v e.2.2.2.2.2 e.2.2.2.2.1 * 256 + e.2.2.1 + 1) * 256 ^ (e.2.2.2.1 - 1) := Nat.mul_pos (by omega) (Nat.pow_pos (by decide))
    show 4294967296 ≤ (pr_v e.2.2.2.2.2 e.2.2.2.2.1 * 256 + e.2.2.1 + 1) * 256 ^ (e.2.2.2.1 - 1) * 4294967296 + e.1
    omega
  unfold pr_U
  omega
theorem pr_U_sh {r : Nat} {e : pq_E} (h : pr_C r e) (hn : pr_N e ≤ 64) : pr_U (pq_sh e) = pr_U e * 256 ∧ pr_N (pq_sh e) = pr_N e + 1 := by
  have ⟨a, b⟩ := pr_sh h hn
  have z1 := pr_ZU e
  have z2 := pr_ZU (pq_sh e)
  exact ⟨by omega, b⟩
theorem pr_U_s1 {r : Nat} {e : pq_E} (h : pr_C r e) (hn : pr_N e ≤ 64) : pr_U (pq_s1 e) = pr_U e * 256 ∧ pr_N (pq_s1 e) = pr_N e + 1 :=
  pr_U_sh (e := (e.1, e.2.1 * 256, e.2.2)) (r := r) h hn
theorem pr_U_c0 (e : pq_E) (s z t : Nat) : pr_U (pq_c0 e s z t) = pr_U e + e.2.1 / t * s ∧ pr_N (pq_c0 e s z t) = pr_N e := by
  have z1 := pr_ZU e
  have z2 := pr_ZU (pq_c0 e s z t)
  have z3 : pr_Z (pq_c0 e s z t) = pr_Z e + e.2.1 / t * s := by
    unfold pr_Z pq_c0
    dsimp only
    exact (Nat.add_assoc _ _ _).symm
  exact ⟨by omega, rfl⟩
def pr_J (F Nf : Nat) (e : pq_E) : Prop := ∃ g, pr_N e + g = Nf ∧ pr_U e * 256 ^ g ≤ F ∧ F < (pr_U e + e.2.1) * 256 ^ g
theorem pr_J_s1 {F Nf : Nat} {e : pq_E} (hC : pr_C e.2.1 e) (hn : pr_N e ≤ 64) (h : pr_J F Nf (pq_s1 e)) : pr_J F Nf e ∧ pr_N e < Nf := by
  obtain ⟨g, h1, h2, h3⟩ := h
  have ⟨a, b⟩ := pr_U_s1 hC hn
  rw [a] at h2 h3
  rw [pq_s1_2, ← Nat.add_mul, Nat.mul_assoc, ← Nat.pow_succ'] at h3
  rw [Nat.mul_assoc, ← Nat.pow_succ'] at h2
  exact ⟨⟨g + 1, by omega, h2, h3⟩, by omega⟩
theorem pr_J_c0 {F Nf : Nat} {e : pq_E} {s z t : Nat} (ht : s + z ≤ t) (h : pr_J F Nf (pq_c0 e s z t)) : pr_J F Nf e := by
  obtain ⟨g, h1, h2, h3⟩ := h
  have ⟨a, b⟩ := pr_U_c0 e s z t
  rw [a] at h2 h3
  rw [b] at h1
  have m : e.2.1 / t * (s + z) ≤ e.2.1 / t * t := Nat.mul_le_mul_left _ ht
  have d : e.2.1 / t * t ≤ e.2.1 := Nat.div_mul_le_self _ _
  rw [Nat.mul_add] at m
  refine ⟨g, h1, Nat.le_trans (Nat.mul_le_mul_right _ (Nat.le_add_right _ _)) h2, Nat.lt_of_lt_of_le h3 (Nat.mul_le_mul_right _ ?_)⟩
  show pr_U e + e.2.1 / t * s + e.2.1 / t * z ≤ pr_U e + e.2.1
  omega
theorem pr_v_div {pk : Nat → Int32} (hB : pq_B pk) (n : Nat) : ∀ g, n + g ≤ 64 → pr_v pk (n + g) / 256 ^ g = pr_v pk n := by
  intro g
  induction g with
  | zero => intro _; show pr_v pk n / 1 = _; exact Nat.div_one _
  | succ g ih =>
    intro h
    obtain ⟨b, hb, e⟩ := hB (n + g) (by omega)
    have e2 : pr_v pk (n + (g + 1)) = pr_v pk (n + g) * 256 + b := by
      show pr_v pk (n + g) * 256 + (pk (n + g)).toNatClampNeg = _
      rw [e, nI_clamp (by omega)]
    rw [e2, Nat.pow_succ', ← Nat.div_div_eq_div_mul, show (pr_v pk (n + g) * 256 + b) / 256 = pr_v pk (n + g) by omega]
    exact ih (by omega)
theorem pr_J_q {pk : Nat → Int32} (hB : pq_B pk) {F Nf : Nat} {e : pq_E} (hF : F = pr_v pk (Nf + 4)) (hN : Nf + 4 ≤ 64) (h : pr_J F Nf e) : pr_U e ≤ pr_v pk (pr_N e + 4) ∧ pr_v pk (pr_N e + 4) < pr_U e + e.2.1 := by
  obtain ⟨g, h1, h2, h3⟩ := h
  have d := pr_v_div hB (pr_N e + 4) g (by omega)
  have e1 : pr_N e + 4 + g = Nf + 4 := by omega
  rw [e1, ← hF] at d
  rw [← d]
  have p : 0 < 256 ^ g := Nat.pow_pos (by decide)
  exact ⟨(Nat.le_div_iff_mul_le p).mpr h2, (Nat.div_lt_iff_lt_mul p).mpr h3⟩
/-- the decoder stands where the encoder stood -/
def pr_R (pk : Nat → Int32) (e : pq_E) (d : pq_D) : Prop := d.1 = pr_N e + 4 ∧ d.2.1 = e.2.1 ∧ d.2.2 + pr_U e = pr_v pk (pr_N e + 4)
theorem pr_R_s1 {pk : Nat → Int32} (hB : pq_B pk) {F Nf le : Nat} {e : pq_E} {d : pq_D} (hF : F = pr_v pk (Nf + 4)) (hN : Nf + 4 ≤ le) (hl : le ≤ 64) (hC : pr_C e.2.1 e) (hn : pr_N e ≤ 64) (hr : e.2.1 < 16777216)
    (hJ : pr_J F Nf (pq_s1 e)) (h : pr_R pk e d) : pr_R pk (pq_s1 e) (pq_t1 pk le d) := by
  obtain ⟨h1, h2, h3⟩ := h
  have ⟨a, b⟩ := pr_U_s1 hC hn
  have ⟨j1, j2⟩ := pr_J_s1 hC hn hJ
  have ⟨q1, q2⟩ := pr_J_q hB hF (by omega) j1
  have ⟨y1, y2⟩ := pq_by_e (p := d.1) hB hl (by omega)
  have e2 : pr_v pk (pr_N e + 4 + 1) = pr_v pk (pr_N e + 4) * 256 + pq_by pk le d.1 := by
    have y3 : (pk d.1).toNatClampNeg = pq_by pk le d.1 := by rw [y1, nI_clamp (by omega)]
    show pr_v pk (pr_N e + 4) * 256 + (pk (pr_N e + 4)).toNatClampNeg = _
    rw [← h1, y3]
  refine ⟨?_, ?_, ?_⟩
  · show d.1 + 1 = _
    omega
  · rw [pq_s1_2, ← h2]
    rfl
  · show (d.2.2 * 256 + pq_by pk le d.1) % 4294967296 + _ = _
    rw [a, b, show pr_N e + 1 + 4 = pr_N e + 4 + 1 by omega, e2, Nat.mod_eq_of_lt (by omega)]
    omega
def pr_I (B : Nat) (e : pq_E) : Prop := pq_EI B e ∧ pr_C e.2.1 e ∧ pr_N e ≤ B
theorem pr_C_s1 {e : pq_E} (h : pr_C e.2.1 e) (hr : e.2.1 < 16777216) : pr_C (pq_s1 e).2.1 (pq_s1 e) := by
  rw [pq_s1_2]
  have h1 : 1 ≤ e.2.1 := h.2.2.2.2
  exact pr_C_sh (e := (e.1, e.2.1 * 256, e.2.2)) (r := e.2.1) h (by omega) (Nat.le_refl _) hr
theorem pr_rn {B : Nat} {e : pq_E} (hC : pr_C e.2.1 e) (hn : pr_N e ≤ B) (hB : B + 2 ≤ 64) : pr_C (pq_rn e).2.1 (pq_rn e) ∧ pr_N (pq_rn e) ≤ B + 2 := by
  unfold pq_rn
  by_cases c : e.2.1 < 16777216
  · rw [if_pos c]
    have c1 := pr_C_s1 hC c
    have ⟨_, n1⟩ := pr_U_s1 hC (by omega)
    by_cases d : (pq_s1 e).2.1 < 16777216
    · rw [if_pos d]
      have ⟨_, n2⟩ := pr_U_s1 c1 (by omega)
      exact ⟨pr_C_s1 c1 d, by omega⟩
    · rw [if_neg d]; exact ⟨c1, by omega⟩
  · rw [if_neg c]; exact ⟨hC, by omega⟩
theorem pr_rn_J {F Nf B : Nat} {e : pq_E} (hC : pr_C e.2.1 e) (hn : pr_N e ≤ B) (hB : B + 2 ≤ 64) (h : pr_J F Nf (pq_rn e)) : pr_J F Nf e := by
  unfold pq_rn at h
  by_cases c : e.2.1 < 16777216
  · rw [if_pos c] at h
    have c1 := pr_C_s1 hC c
    have ⟨_, n1⟩ := pr_U_s1 hC (by omega)
    by_cases d : (pq_s1 e).2.1 < 16777216
    · rw [if_pos d] at h
      exact (pr_J_s1 hC (by omega) (pr_J_s1 c1 (by omega) h).1).1
    · rw [if_neg d] at h
      exact (pr_J_s1 hC (by omega) h).1
  · rw [if_neg c] at h; exact h
theorem pr_rn_R {pk : Nat → Int32} (hB : pq_B pk) {F Nf le B : Nat} {e : pq_E} {d : pq_D} (hF : F = pr_v pk (Nf + 4)) (hN : Nf + 4 ≤ le) (hl : le ≤ 64) (hC : pr_C e.2.1 e) (hn : pr_N e ≤ B) (hb : B + 2 ≤ 64)
    (hJ : pr_J F Nf (pq_rn e)) (h : pr_R pk e d) : pr_R pk (pq_rn e) (pq_dn pk le d) := by
  have hr : d.2.1 = e.2.1 := h.2.1
  unfold pq_rn at *
  unfold pq_dn
  by_cases c : e.2.1 < 16777216
  · rw [if_pos c] at hJ ⊢
    rw [if_pos (show d.2.1 < 16777216 by omega)]
    have c1 := pr_C_s1 hC c
    have ⟨_, n1⟩ := pr_U_s1 hC (by omega)
    have t1 : (pq_t1 pk le d).2.1 = (pq_s1 e).2.1 := by rw [pq_s1_2, ← hr]; rfl
    by_cases z : (pq_s1 e).2.1 < 16777216
    · rw [if_pos z] at hJ ⊢
      rw [if_pos (show (pq_t1 pk le d).2.1 < 16777216 by omega)]
      have j1 := (pr_J_s1 c1 (by omega) hJ).1
      have r1 := pr_R_s1 hB hF hN hl hC (by omega) c j1 h
      exact pr_R_s1 hB hF hN hl c1 (by omega) z hJ r1
    · rw [if_neg z] at hJ ⊢
      rw [if_neg (show ¬ (pq_t1 pk le d).2.1 < 16777216 by omega)]
      exact pr_R_s1 hB hF hN hl hC (by omega) c hJ h
  · rw [if_neg c] at hJ ⊢
    rw [if_neg (show ¬ d.2.1 < 16777216 by omega)]
    exact h
theorem pr_C_c0 {B : Nat} {e : pq_E} {s z t : Nat} (hE : pq_EI B e) (hC : pr_C e.2.1 e) (h0 : 1 ≤ t) (h1 : t ≤ 65536) (h2 : 1 ≤ z) (h3 : s + z ≤ t) : pr_C (pq_c0 e s z t).2.1 (pq_c0 e s z t) := by
  obtain ⟨a, b, c, d, _⟩ := hC
  have ⟨x1, x2, _⟩ := pq_c0_s hE h0 h1 h2 h3
  have m : e.2.1 / t * (s + z) ≤ e.2.1 / t * t := Nat.mul_le_mul_left _ h3
  have d2 : e.2.1 / t * t ≤ e.2.1 := Nat.div_mul_le_self _ _
  rw [Nat.mul_add] at m
  refine ⟨a, b, ?_, x1, by omega⟩
  show (e.2.2.1 + 1) * 256 ^ (e.2.2.2.1 - 1) * 4294967296 + (e.1 + e.2.1 / t * s) + e.2.1 / t * z ≤ 256 * 256 ^ (e.2.2.2.1 - 1) * 4294967296 + 4294967296
  omega
theorem pr_cd {B : Nat} {e : pq_E} {s z t : Nat} (h : pr_I B e) (h0 : 1 ≤ t) (h1 : t ≤ 65536) (h2 : 1 ≤ z) (h3 : s + z ≤ t) (hB : B + 2 ≤ 64) : pr_I (B + 2) (pq_cd e s z t) := by
  obtain ⟨a, b, c⟩ := h
  have cc := pr_C_c0 a b h0 h1 h2 h3
  have ⟨d1, d2⟩ := pr_rn cc (B := B) (by rw [(pr_U_c0 e s z t).2]; exact c) hB
  exact ⟨pq_cd_s a h0 h1 h2 h3, d1, d2⟩
theorem pr_cd_J {F Nf B : Nat} {e : pq_E} {s z t : Nat} (h : pr_I B e) (h0 : 1 ≤ t) (h1 : t ≤ 65536) (h2 : 1 ≤ z) (h3 : s + z ≤ t) (hB : B + 2 ≤ 64) (hJ : pr_J F Nf (pq_cd e s z t)) : pr_J F Nf (pq_c0 e s z t) := by
  obtain ⟨a, b, c⟩ := h
  exact pr_rn_J (B := B) (pr_C_c0 a b h0 h1 h2 h3) (by rw [(pr_U_c0 e s z t).2]; exact c) hB hJ
/-- one symbol -/
theorem pr_step {pk : Nat → Int32} (hB : pq_B pk) {F Nf le B : Nat} {e : pq_E} {d : pq_D} {s z t : Nat} (hF : F = pr_v pk (Nf + 4)) (hN : Nf + 4 ≤ le) (hl : le ≤ 64) (h : pr_I B e) (h0 : 1 ≤ t) (h1 : t ≤ 65536) (h2 : 1 ≤ z) (h3 : s + z ≤ t) (hb : B + 2 ≤ 64)
    (hJ : pr_J F Nf (pq_cd e s z t)) (hR : pr_R pk e d) : s ≤ pq_dv d t ∧ pq_dv d t < s + z ∧ pr_R pk (pq_cd e s z t) (pq_dc pk le d t s z) := by
  have j0 := pr_cd_J h h0 h1 h2 h3 hb hJ
  have ⟨u, n⟩ := pr_U_c0 e s z t
  have ⟨q1, q2⟩ := pr_J_q hB hF (by omega) j0
  rw [u, n] at q1 q2
  obtain ⟨r1, r2, r3⟩ := hR
  obtain ⟨a, b, c⟩ := h
  have ⟨y1, y2⟩ := pq_r a.2.2.1 h0 h1
  have q2' : pr_v pk (pr_N e + 4) < pr_U e + e.2.1 / t * s + e.2.1 / t * z := q2
  have k1 : d.2.1 / t * s ≤ d.2.2 := by rw [r2]; omega
  have k2 : d.2.2 < d.2.1 / t * (s + z) := by rw [r2, Nat.mul_add]; omega
  have rp : 0 < d.2.1 / t := by rw [r2]; omega
  have v1 : s ≤ d.2.2 / (d.2.1 / t) := (Nat.le_div_iff_mul_le rp).mpr (by rw [Nat.mul_comm]; exact k1)
  have v2 : d.2.2 / (d.2.1 / t) < s + z := (Nat.div_lt_iff_lt_mul rp).mpr (by rw [Nat.mul_comm]; exact k2)
  have v : pq_dv d t = d.2.2 / (d.2.1 / t) := if_neg (by omega)
  refine ⟨by omega, by omega, ?_⟩
  refine pr_rn_R hB (B := B) hF hN hl (pr_C_c0 a b h0 h1 h2 h3) (by rw [n]; exact c) hb hJ ?_
  refine ⟨by rw [n]; exact r1, ?_, ?_⟩
  · show d.2.1 / t * z = e.2.1 / t * z
    rw [r2]
  · rw [u, n]
    show d.2.2 - d.2.1 / t * s + (pr_U e + e.2.1 / t * s) = _
    rw [r2] at k1 ⊢
    omega
/-! an index taken apart gives the cells -/
theorem pr_W_lt {n k m m' r : Nat} (h1 : pq_W n k m ≤ r) (h2 : r < pq_W n k (m' + 1)) : m ≤ m' := by
  by_cases c : m' + 1 ≤ m
  · have := pq_W_mono n k c; omega
  · omega
theorem pr_un {a : Nat → Int32} {i n k : Nat} (hn : n < 8) (hk : k ≤ 16) (h : pq_M a i (n + 1) = k) :
    pq_fm n k (pq_ix a i (n + 1) k) = pq_mg (a i) ∧ pq_uy n k (pq_ix a i (n + 1) k) = a i ∧ pq_ur n k (pq_ix a i (n + 1) k) = pq_ix a (i + 1) n (k - pq_mg (a i)) := by
  have h2 : pq_mg (a i) + pq_M a (i + 1) n = k := h
  have h3 := pq_ix_lt a n (i + 1) (k - pq_mg (a i)) (by omega) (by omega) (by omega)
  have h4 := pq_ix_lt a (n + 1) i k (by omega) hk h
  have h6 : pq_W n k (pq_mg (a i) + 1) = pq_W n k (pq_mg (a i)) + (if pq_mg (a i) = 0 then 1 else 2) * pq_V n (k - pq_mg (a i)) := rfl
  have e : pq_ix a i (n + 1) k = pq_W n k (pq_mg (a i)) + (if a i < 0 then pq_V n (k - pq_mg (a i)) else 0) + pq_ix a (i + 1) n (k - pq_mg (a i)) := rfl
  have ⟨f1, f2, f3⟩ := pq_fm_s hn hk h4
  have f : pq_fm n k (pq_ix a i (n + 1) k) = pq_mg (a i) := by
    apply Nat.le_antisymm
    · apply pr_W_lt f1
      by_cases c : a i < 0
      · have := pq_mg_1 c
        rw [if_pos c] at e
        rw [if_neg (by omega)] at h6
        omega
      · rw [if_neg c] at e
        by_cases z : pq_mg (a i) = 0
        · rw [if_pos z] at h6; omega
        · rw [if_neg z] at h6; omega
    · exact pr_W_lt (show pq_W n k (pq_mg (a i)) ≤ pq_ix a i (n + 1) k by omega) f2
  refine ⟨f, ?_⟩
  by_cases c : a i < 0
  · have g : pq_ng n k (pq_ix a i (n + 1) k) := by
      have := pq_mg_1 c
      rw [if_pos c] at e
      unfold pq_ng
      rw [f]
      omega
    rw [pq_uy_n g, pq_ur_n g, f]
    rw [if_pos c] at e
    exact ⟨by rw [← pq_mg_n c, Int32.neg_neg], by omega⟩
  · have g : ¬ pq_ng n k (pq_ix a i (n + 1) k) := by
      rw [if_neg c] at e
      unfold pq_ng
      rw [f]
      omega
    rw [pq_uy_p g, pq_ur_p g, f]
    rw [if_neg c] at e
    exact ⟨(pq_mg_p c).symm, by omega⟩
theorem pr_us {a : Nat → Int32} {n k : Nat} (hn : n ≤ 8) (hk : k ≤ 16) (h : pq_M a 0 n = k) : ∀ i, i ≤ n → pq_M a i (n - i) = (pq_us n k (pq_ix a 0 n k) i).1 ∧ (pq_us n k (pq_ix a 0 n k) i).1 ≤ 16 ∧ (pq_us n k (pq_ix a 0 n k) i).2 = pq_ix a i (n - i) (pq_us n k (pq_ix a 0 n k) i).1 := by
  intro i
  induction i with
  | zero => intro _; exact ⟨h, hk, rfl⟩
  | succ i ih =>
    intro hi
    have ⟨h1, h2, h3⟩ := ih (by omega)
    have e : n - i = (n - i - 1) + 1 := by omega
    rw [e] at h1 h3
    have ⟨u1, u2, u3⟩ := pr_un (n := n - i - 1) (by omega) h2 h1
    rw [← h3] at u1 u2 u3
    have e2 : n - (i + 1) = n - i - 1 := by omega
    rw [e2]
    have m : pq_mg (a i) + pq_M a (i + 1) (n - i - 1) = (pq_us n k (pq_ix a 0 n k) i).1 := h1
    have k1 : (pq_us n k (pq_ix a 0 n k) (i + 1)).1 = (pq_us n k (pq_ix a 0 n k) i).1 - pq_mg (a i) := by
      show (pq_us n k (pq_ix a 0 n k) i).1 - pq_fm (n - i - 1) (pq_us n k (pq_ix a 0 n k) i).1 (pq_us n k (pq_ix a 0 n k) i).2 = _
      rw [u1]
    have k2 : (pq_us n k (pq_ix a 0 n k) (i + 1)).2 = pq_ix a (i + 1) (n - i - 1) ((pq_us n k (pq_ix a 0 n k) i).1 - pq_mg (a i)) := u3
    rw [k2, k1]
    exact ⟨by omega, by omega, rfl⟩
theorem pr_y {a : Nat → Int32} {n k : Nat} (hn : n ≤ 8) (hk : k ≤ 16) (h : pq_M a 0 n = k) {i : Nat} (hi : i < n) : pq_y n k (pq_ix a 0 n k) i = a i := by
  have ⟨h1, h2, h3⟩ := pr_us hn hk h i (by omega)
  have e : n - i = (n - i - 1) + 1 := by omega
  rw [e] at h1 h3
  have ⟨_, u2, _⟩ := pr_un (n := n - i - 1) (by omega) h2 h1
  rw [← h3] at u2
  exact u2
theorem pr_sy {v s : Nat} (h : v < 150) (h1 : pq_st s ≤ v) (h2 : v < pq_st (s + 1)) : pq_sy v = s := by
  have ⟨a, b, _⟩ := pq_sy_s h
  apply Nat.le_antisymm
  · by_cases c : s + 1 ≤ pq_sy v
    · have : pq_st (s + 1) ≤ pq_st (pq_sy v) := pq_S_mono pq_f c
      omega
    · omega
  · by_cases c : pq_sy v + 1 ≤ s
    · have : pq_st (pq_sy v + 1) ≤ pq_st s := pq_S_mono pq_f c
      omega
    · omega
section PRB
variable {pk : Nat → Int32} {F Nf le B k idx : Nat} {e : pq_E} {d : pq_D}
theorem pr_cp (h : pr_I B e) (hk : k ≤ 16) (hi : idx < pq_V 8 k) (hb : B + 4 ≤ 64) : pr_I (B + 4) (pq_cp e k idx) ∧ (pr_J F Nf (pq_cp e k idx) → pr_J F Nf e) := by
  unfold pq_cp
  by_cases c : pq_V 8 k ≤ 65536
  · rw [if_pos c]
    have ⟨i1, i2, i3⟩ := pr_cd (s := idx) (z := 1) (t := pq_V 8 k) h (by omega) c (by omega) (by omega) (by omega)
    refine ⟨⟨pq_EI_le i1 (by omega), i2, by omega⟩, fun j => ?_⟩
    exact pr_J_c0 (by omega) (pr_cd_J h (by omega) c (by omega) (by omega) (by omega) j)
  · rw [if_neg c]
    have ⟨a1, a2, a3, _⟩ := pq_ap_s k (by omega) (by omega)
    have ⟨p1, p2⟩ := pq_ap_p _ a2
    have m : idx / 2 ^ pq_ap k ≤ (pq_V 8 k - 1) / 2 ^ pq_ap k := Nat.div_le_div_right (by omega)
    have r : idx % 2 ^ pq_ap k < 2 ^ pq_ap k := Nat.mod_lt _ p1
    have i1 := pr_cd (s := idx / 2 ^ pq_ap k) (z := 1) (t := (pq_V 8 k - 1) / 2 ^ pq_ap k + 1) h (Nat.succ_pos _) a3 (Nat.le_refl _) (Nat.succ_le_succ m) (by omega)
    have i2 := pr_cd (s := idx % 2 ^ pq_ap k) (z := 1) (t := 2 ^ pq_ap k) i1 p1 (Nat.le_trans p2 (by decide)) (Nat.le_refl _) r (by omega)
    refine ⟨i2, fun j => ?_⟩
    have j1 := pr_J_c0 r (pr_cd_J i1 p1 (Nat.le_trans p2 (by decide)) (Nat.le_refl _) r (by omega) j)
    exact pr_J_c0 (Nat.succ_le_succ m) (pr_cd_J h (Nat.succ_pos _) a3 (Nat.le_refl _) (Nat.succ_le_succ m) (by omega) j1)
theorem pr_dp (hB : pq_B pk) (hF : F = pr_v pk (Nf + 4)) (hN : Nf + 4 ≤ le) (hl : le ≤ 64) (h : pr_I B e) (hk : k ≤ 16) (hi : idx < pq_V 8 k) (hb : B + 4 ≤ 64) (hJ : pr_J F Nf (pq_cp e k idx)) (hR : pr_R pk e d) :
    (pq_dp pk le d k).1 = idx ∧ pr_R pk (pq_cp e k idx) (pq_dp pk le d k).2 := by
  unfold pq_cp at *
  unfold pq_dp
  by_cases c : pq_V 8 k ≤ 65536
  · rw [if_pos c] at hJ ⊢
    rw [if_pos c]
    have ⟨v1, v2, r1⟩ := pr_step hB hF hN hl h (by omega) c (by omega) (by omega) (by omega) hJ hR
    have v : pq_dv d (pq_V 8 k) = idx := by omega
    rw [v]
    exact ⟨rfl, r1⟩
  · rw [if_neg c] at hJ ⊢
    rw [if_neg c]
    have ⟨a1, a2, a3, _⟩ := pq_ap_s k (by omega) (by omega)
    have ⟨p1, p2⟩ := pq_ap_p _ a2
    have m : idx / 2 ^ pq_ap k ≤ (pq_V 8 k - 1) / 2 ^ pq_ap k := Nat.div_le_div_right (by omega)
    have r : idx % 2 ^ pq_ap k < 2 ^ pq_ap k := Nat.mod_lt _ p1
    have i1 := pr_cd (s := idx / 2 ^ pq_ap k) (z := 1) (t := (pq_V 8 k - 1) / 2 ^ pq_ap k + 1) h (Nat.succ_pos _) a3 (Nat.le_refl _) (Nat.succ_le_succ m) (by omega)
    have j1 := pr_J_c0 r (pr_cd_J i1 p1 (Nat.le_trans p2 (by decide)) (Nat.le_refl _) r (by omega) hJ)
    have ⟨v1, v2, r1⟩ := pr_step hB hF hN hl h (Nat.succ_pos _) a3 (Nat.le_refl _) (Nat.succ_le_succ m) (by omega) j1 hR
    have v : pq_dv d ((pq_V 8 k - 1) / 2 ^ pq_ap k + 1) = idx / 2 ^ pq_ap k := Nat.le_antisymm (Nat.le_of_lt_succ v2) v1
    rw [v]
    have ⟨w1, w2, r2⟩ := pr_step hB hF hN hl i1 p1 (Nat.le_trans p2 (by decide)) (Nat.le_refl _) r (by omega) hJ r1
    have w : pq_dv (pq_dc pk le d ((pq_V 8 k - 1) / 2 ^ pq_ap k + 1) (idx / 2 ^ pq_ap k) 1) (2 ^ pq_ap k) = idx % 2 ^ pq_ap k := Nat.le_antisymm (Nat.le_of_lt_succ w2) w1
    rw [w]
    have dm : idx / 2 ^ pq_ap k * 2 ^ pq_ap k + idx % 2 ^ pq_ap k = idx := Nat.div_add_mod' _ _
    refine ⟨?_, r2⟩
    show (if _ then _ else _) = _
    rw [dm, if_neg (by omega)]
end PRB
theorem pr_sh_l (e : pq_E) : (pq_sh e).1 = e.1 % 16777216 * 256 := by
  unfold pq_sh
  by_cases c : e.1 < 4278190080 ∨ 4294967296 ≤ e.1
  · rw [if_pos c]
  · rw [if_neg c]
/-- the five last shifts -/
theorem pr_fl {r : Nat} {e : pq_E} (h : pr_C r e) (hn : pr_N e + 5 ≤ 64) : pr_v (pq_fl 5 e).2.2.2.2.2 (pq_fl 5 e).2.2.2.2.1 = pr_U e ∧ (pq_fl 5 e).2.2.2.2.1 = pr_N e + 4 := by
  have c0 : pr_C 1 e := pr_C_le h h.2.2.2.2 (Nat.le_refl _)
  have c1 : pr_C 1 (pq_sh e) := pr_C_sh c0 (by omega) (by omega) (by omega)
  have c2 : pr_C 1 (pq_sh (pq_sh e)) := pr_C_sh c1 (by omega) (by omega) (by omega)
  have c3 : pr_C 1 (pq_sh (pq_sh (pq_sh e))) := pr_C_sh c2 (by omega) (by omega) (by omega)
  have c4 : pr_C 1 (pq_sh (pq_sh (pq_sh (pq_sh e)))) := pr_C_sh c3 (by omega) (by omega) (by omega)
  have ⟨u1, n1⟩ := pr_U_sh c0 (by omega)
  have ⟨u2, n2⟩ := pr_U_sh c1 (by omega)
  have ⟨u3, n3⟩ := pr_U_sh c2 (by omega)
  have ⟨u4, n4⟩ := pr_U_sh c3 (by omega)
  have ⟨u5, n5⟩ := pr_U_sh c4 (by omega)
  have l1 := pr_sh_l e
  have l2 := pr_sh_l (pq_sh e)
  have l3 := pr_sh_l (pq_sh (pq_sh e))
  have l4 := pr_sh_l (pq_sh (pq_sh (pq_sh e)))
  have z : (pq_sh (pq_sh (pq_sh (pq_sh e)))).1 = 0 := by omega
  show pr_v (pq_sh (pq_sh (pq_sh (pq_sh (pq_sh e))))).2.2.2.2.2 (pq_sh (pq_sh (pq_sh (pq_sh (pq_sh e))))).2.2.2.2.1 = pr_U e ∧ (pq_sh (pq_sh (pq_sh (pq_sh (pq_sh e))))).2.2.2.2.1 = pr_N e + 4
  generalize pq_sh (pq_sh (pq_sh (pq_sh e))) = e4 at *
  have e5 : pq_sh e4 = (e4.1 % 16777216 * 256, e4.2.1, e4.1 / 16777216 % 256, 1, pq_en ((255 + e4.1 / 4294967296) % 256) (e4.2.2.2.1 - 1) (pq_em ((e4.2.2.1 + e4.1 / 4294967296) % 256) (e4.2.2.2.2.1, e4.2.2.2.2.2))) := if_pos (Or.inl (by omega))
  have z5 := pr_ZU (pq_sh e4)
  have p1 : (pq_sh e4).1 = 0 := by rw [pr_sh_l, z]
  have p2 : (pq_sh e4).2.2.1 = 0 := by rw [e5, z]
  have p3 : (pq_sh e4).2.2.2.1 = 1 := by rw [e5]
  unfold pr_Z at z5
  unfold pr_N at n5
  rw [p1, p2, p3] at z5
  rw [p3] at n5
  have z6 : (pr_v (pq_sh e4).2.2.2.2.2 (pq_sh e4).2.2.2.2.1 * 256 + 0 + 1) * 1 * 4294967296 + 0 = pr_U (pq_sh e4) + 4294967296 := z5
  unfold pr_N at *
  exact ⟨by omega, by omega⟩
section PRF
variable {pk co pc eq : Nat → Int32}
theorem pr_eb (hp : pq_B pk) (hc : pq_HC co) (hk : pq_HK pc) (hq : pq_HQ eq) : ∀ b, b ≤ 4 → pr_I (1 + 6 * b) (pq_eb pk co pc eq b) := by
  intro b
  induction b with
  | zero =>
    intro _
    refine ⟨pq_eb_s hp hc hk hq 0 (by omega), ⟨(by decide : 1 ≤ 1), (by decide : 0 < 256), (by decide : (0 + 1) * 256 ^ (1 - 1) * 4294967296 + 0 + 4294967295 ≤ 256 * 256 ^ (1 - 1) * 4294967296 + 4294967296), (by decide : 0 + 4294967295 ≤ 8589934592), (by decide : 1 ≤ 4294967295)⟩, (by decide : 0 + 1 ≤ 1 + 6 * 0)⟩
  | succ b ih =>
    intro hb
    have i0 := ih (by omega)
    have h1 := pq_sb_le hc hq (b := b) (by omega)
    have ⟨a1, a2, _⟩ := pq_f_s _ h1
    have i1 : pr_I (1 + 6 * b + 2) (pq_ee co eq b (pq_eb pk co pc eq b)) := pr_cd i0 (by omega) (by omega) a2 a1 (by omega)
    have ⟨_, k2, _⟩ := pq_k_s hk (b := b) (by omega)
    have ⟨j1, _⟩ := pr_cp (F := 0) (Nf := 0) i1 k2 (pq_id_lt co hk (b := b) (by omega)) (by omega)
    exact j1
theorem pr_eb_J (hp : pq_B pk) (hc : pq_HC co) (hk : pq_HK pc) (hq : pq_HQ eq) {F Nf b : Nat} (hb : b < 4) (h : pr_J F Nf (pq_eb pk co pc eq (b + 1))) : pr_J F Nf (pq_ee co eq b (pq_eb pk co pc eq b)) ∧ pr_J F Nf (pq_eb pk co pc eq b) := by
  have i0 := pr_eb hp hc hk hq b (by omega)
  have h1 := pq_sb_le hc hq (b := b) (by omega)
  have ⟨a1, a2, _⟩ := pq_f_s _ h1
  have i1 : pr_I (1 + 6 * b + 2) (pq_ee co eq b (pq_eb pk co pc eq b)) := pr_cd i0 (by omega) (by omega) a2 a1 (by omega)
  have ⟨_, k2, _⟩ := pq_k_s hk (b := b) (by omega)
  have ⟨_, j2⟩ := pr_cp (F := F) (Nf := Nf) i1 k2 (pq_id_lt co hk (b := b) (by omega)) (by omega)
  have j3 := j2 h
  exact ⟨j3, pr_J_c0 a1 (pr_cd_J i0 (by omega) (by omega) a2 a1 (by omega) j3)⟩
theorem pr_eb_Ja (hp : pq_B pk) (hc : pq_HC co) (hk : pq_HK pc) (hq : pq_HQ eq) {F Nf : Nat} (h : pr_J F Nf (pq_eb pk co pc eq 4)) : ∀ j, j ≤ 4 → pr_J F Nf (pq_eb pk co pc eq (4 - j)) := by
  intro j
  induction j with
  | zero => intro _; exact h
  | succ j ih =>
    intro hj
    have h1 := ih (by omega)
    rw [show 4 - j = 4 - (j + 1) + 1 by omega] at h1
    exact (pr_eb_J hp hc hk hq (by omega) h1).2
theorem pr_v_mono {p : Nat → Int32} {a : Nat} : ∀ {b : Nat}, a ≤ b → pr_v p a ≤ pr_v p b := by
  intro b
  induction b with
  | zero => intro h; rw [Nat.le_zero.mp h]; exact Nat.le_refl _
  | succ b ih =>
    intro h
    by_cases e : a = b + 1
    · subst e; exact Nat.le_refl _
    · have h1 := ih (by omega)
      show pr_v p a ≤ pr_v p b * 256 + _
      omega
theorem pr_d5 {p : Nat → Int32} (hB : pq_B p) {le : Nat} (h5 : 5 ≤ le) (hl : le ≤ 64) (h : pr_v p 5 < 4294967296) : ∀ i, i ≤ 5 → (pq_d5 p le i).2.2 = pr_v p i := by
  intro i
  induction i with
  | zero => intro _; rfl
  | succ i ih =>
    intro hi
    have ⟨y1, y2⟩ := pq_by_e (p := i) hB hl (by omega)
    have m := pr_v_mono (p := p) hi
    have e2 : pr_v p (i + 1) = pr_v p i * 256 + pq_by p le i := by
      show pr_v p i * 256 + (p i).toNatClampNeg = _
      have y3 : (p i).toNatClampNeg = pq_by p le i := by rw [y1, nI_clamp (by omega)]
      rw [y3]
    show ((pq_d5 p le i).2.2 * 256 + pq_by p le (pq_d5 p le i).1) % 4294967296 = _
    rw [ih (by omega), (pq_d5_s p le i).1, ← e2, Nat.mod_eq_of_lt (by omega)]
theorem pr_trip (hp : pq_B pk) (hc : pq_HC co) (hk : pq_HK pc) (hq : pq_HQ eq) : ∀ b, b < 4 →
    pq_ds (pq_db (pq_fl 5 (pq_eb pk co pc eq 4)).2.2.2.2.2 (pq_fl 5 (pq_eb pk co pc eq 4)).2.2.2.2.1 pc b) = pq_sb co eq b ∧
    pq_xi (pq_fl 5 (pq_eb pk co pc eq 4)).2.2.2.2.2 (pq_fl 5 (pq_eb pk co pc eq 4)).2.2.2.2.1 pc b = pq_id co pc b := by
  have i4 := pr_eb hp hc hk hq 4 (by omega)
  have ⟨f1, f2⟩ := pr_fl i4.2.1 (by have := i4.2.2; omega)
  have wF := pq_fl_w 5 _ _ i4.1.1
  have hN4 := i4.2.2
  generalize hpF : (pq_fl 5 (pq_eb pk co pc eq 4)).2.2.2.2.2 = pF at *
  generalize hlF : (pq_fl 5 (pq_eb pk co pc eq 4)).2.2.2.2.1 = lF at *
  have hB : pq_B pF := by rw [← hpF]; exact wF.2.2.2
  have hl : lF ≤ 64 := by rw [← hlF]; exact wF.2.2.1
  generalize hNf : pr_N (pq_eb pk co pc eq 4) = Nf at *
  have hF : pr_U (pq_eb pk co pc eq 4) = pr_v pF (Nf + 4) := by rw [← f2]; exact f1.symm
  have J4 : pr_J (pr_U (pq_eb pk co pc eq 4)) Nf (pq_eb pk co pc eq 4) := by
    refine ⟨0, hNf, ?_, ?_⟩
    · show _ * 1 ≤ _; omega
    · show _ < _ * 1
      have := i4.1.2.2.1
      omega
  have Ja : ∀ b, b ≤ 4 → pr_J (pr_U (pq_eb pk co pc eq 4)) Nf (pq_eb pk co pc eq b) := by
    intro b hb
    have := pr_eb_Ja hp hc hk hq J4 (4 - b) (by omega)
    rw [show 4 - (4 - b) = b by omega] at this
    exact this
  have R : ∀ b, b ≤ 4 → pr_R pF (pq_eb pk co pc eq b) (pq_db pF lF pc b) ∧ (b < 4 → pq_ds (pq_db pF lF pc b) = pq_sb co eq b ∧ pq_xi pF lF pc b = pq_id co pc b) := by
    have step : ∀ b, b < 4 → pr_R pF (pq_eb pk co pc eq b) (pq_db pF lF pc b) → (pq_ds (pq_db pF lF pc b) = pq_sb co eq b ∧ pq_xi pF lF pc b = pq_id co pc b) ∧ pr_R pF (pq_eb pk co pc eq (b + 1)) (pq_db pF lF pc (b + 1)) := by
      intro b hb hR
      have i0 := pr_eb hp hc hk hq b (by omega)
      have h1 := pq_sb_le hc hq (b := b) (by omega)
      have ⟨a1, a2, _⟩ := pq_f_s _ h1
      have i1 : pr_I (1 + 6 * b + 2) (pq_ee co eq b (pq_eb pk co pc eq b)) := pr_cd i0 (by omega) (by omega) a2 a1 (by omega)
      have ⟨_, k2, _⟩ := pq_k_s hk (b := b) (by omega)
      have jb := Ja (b + 1) (by omega)
      have ⟨j1, _⟩ := pr_eb_J hp hc hk hq (by omega) jb
      have ⟨v1, v2, r1⟩ := pr_step hB hF (by omega) hl i0 (by omega) (by omega) a2 a1 (by omega) j1 hR
      have s1 : pq_ds (pq_db pF lF pc b) = pq_sb co eq b := pr_sy (pq_dv_lt (by decide)) v1 v2
      have r2 : pr_R pF (pq_ee co eq b (pq_eb pk co pc eq b)) (pq_de pF lF (pq_db pF lF pc b)) := by
        unfold pq_de
        rw [s1]
        exact r1
      have ⟨x1, x2⟩ := pr_dp hB hF (by omega) hl i1 k2 (pq_id_lt co hk (b := b) (by omega)) (by omega) jb r2
      exact ⟨⟨s1, x1⟩, x2⟩
    have R0 : pr_R pF (pq_eb pk co pc eq 0) (pq_db pF lF pc 0) := by
      have ⟨q1, q2⟩ := pr_J_q hB hF (by omega) (Ja 0 (by omega))
      have u0 : pr_U (pq_eb pk co pc eq 0) = 0 := by
        show (0 * 256 + 0 + 1) * 256 ^ (1 - 1) * 4294967296 + 0 - 4294967296 = 0
        decide
      have n0 : pr_N (pq_eb pk co pc eq 0) = 1 := rfl
      rw [n0, u0] at q2
      have q3 : pr_v pF 5 < 0 + 4294967295 := q2
      have ⟨d1, d2, _⟩ := pq_d5_s pF lF 5
      have N1 : 1 ≤ Nf := by
        obtain ⟨g, g1, _⟩ := Ja 0 (by omega)
        rw [n0] at g1
        omega
      refine ⟨by rw [n0]; exact d1, d2, ?_⟩
      rw [u0, n0]
      exact pr_d5 hB (by omega) hl (by omega) 5 (by omega)
    have all : ∀ b, b ≤ 4 → pr_R pF (pq_eb pk co pc eq b) (pq_db pF lF pc b) := by
      intro b
      induction b with
      | zero => intro _; exact R0
      | succ b ih => intro hb; exact (step b (by omega) (ih (by omega))).2
    intro b hb
    exact ⟨all b hb, fun h => (step b h (all b hb)).1⟩
  intro b hb
  exact (R b (by omega)).2 hb
end PRF
end
section
/-! the law's pieces -/
theorem pl_cell {post : Int32 → Prop} {L : Nat} {xs : Nat → Int32} {j : Nat} {p : Int32} (hL : L ≤ 260) (e : p = nI j) (hj : j < 2 ^ 20) (h : ∀ r, post r) : wpL_cell post L xs () p := by
  subst e
  by_cases c : L ≤ j
  · exact br_t (nI_le c (by omega)) (h 0)
  · exact br_f (nI_ge (by omega) (by omega)) ⟨vp_in_nI (by omega) (by omega), h _⟩
theorem pl_rs : ∀ q, q < 34 → ∀ p, p < 26 → nI p + pq_rs (pq_sm q p) = nI q := by decide +kernel
theorem pl_cl {q : Nat} (h : q ≤ 33) : pq_cl (nI q) 0 33 = nI q := by
  unfold pq_cl
  rw [if_neg (nI_pos (by omega))]
  exact if_neg (nI_nlt (a := 33) h (by decide))
/-- a frame comes back -/
theorem pl_back {co pc eq dq pk : Nat → Int32} (hp : pq_B pk) (hc : pq_HC co) (hk : pq_HK pc) (hq : pq_HQ eq) (hd : ∀ j, j < 4 → dq j = eq j) : ∀ b, b < 4 →
    pq_qf dq (pq_fl 5 (pq_eb pk co pc eq 4)).2.2.2.2.2 (pq_fl 5 (pq_eb pk co pc eq 4)).2.2.2.2.1 pc b = nI (pq_q co b) ∧
    ∀ j, j < 8 → pq_y 8 (pq_k pc b) (pq_xi (pq_fl 5 (pq_eb pk co pc eq 4)).2.2.2.2.2 (pq_fl 5 (pq_eb pk co pc eq 4)).2.2.2.2.1 pc b) j = pq_yv co b (pq_k pc b) j := by
  intro b hb
  have ⟨t1, t2⟩ := pr_trip hp hc hk hq b hb
  have hq1 := pq_q_le hc hb
  have ⟨hq2, hq3⟩ := pq_q_s hq hb
  have ⟨k1, k2, k3⟩ := pq_k_s hk hb
  refine ⟨?_, ?_⟩
  · unfold pq_qf
    rw [t1, hd b hb, hq3, pq_pred hq2]
    unfold pq_sb
    rw [pl_rs (pq_q co b) (by omega) ((3 * pq_k eq b + 2) / 4) (by omega), pl_cl hq1]
  · intro j hj
    rw [t2]
    exact pr_y (by omega) k2 (pq_yv_M co b k2) hj
def pl_I (le : Nat) (pc co en vec sizes pk : Nat → Int32) : Prop := le ≤ 64 ∧ pq_HK pc ∧ pq_HC co ∧ pq_B pk ∧ pq_tb sizes ∧ pq_HQ en ∧ (∀ j, j < 4 → en (4 + j) = en j) ∧ (∀ i, i < 8 → pq_mg (vec i) ≤ 16)
section PLA
variable {x_length x_cache x_pending x_readPosition : Int32} {x_low x_encoderRange x_decoderRange x_code x_decoderStep : Int64} {x_pulseCounts x_coefs x_energies x_pulses x_decoded x_vec x_sizes x_packet : Nat → Int32}
variable {le : Nat}
theorem px_init {post : St2 → Prop} {k0 k1 k2 k3 : Int32} (K : ∀ t : Nat → Int32, pq_tb t → post (0, 0, 4294967295, 0, 1, 0, 4294967295, 0, 0, upd (upd (upd (upd (fun _ => 0) 0 (pq_cl k0 1 16)) 1 (pq_cl k1 1 16)) 2 (pq_cl k2 1 16)) 3 (pq_cl k3 1 16), (fun _ => 0), (fun _ => 0), (fun _ => 0), (fun _ => 0), (fun _ => 0), t, (fun _ => 0))) : wpX_init post 8 365 (0, 0, 0, 0, 0, 0, 0, 0, 0) k0 k1 k2 k3 :=
  ⟨by decide, by decide, by decide, by decide, by decide, by decide, by decide, by decide, by decide, by decide, by decide, by decide, by decide, by decide, by decide, by decide, px_clamp (nm_e (px_clamp (nm_e (px_clamp (nm_e (px_clamp (nm_e (px_fill K))))))))⟩
theorem px_pul0 {post : Int32 → Prop} {j : Nat} (hj : j < 32) (h : post (x_pulses j)) : wpX_pulse post (x_length, x_low, x_encoderRange, x_cache, x_pending, x_readPosition, x_decoderRange, x_code, x_decoderStep, x_pulseCounts, x_coefs, x_energies, x_pulses, x_decoded, x_vec, x_sizes, x_packet) 0 (nI j) := by
  have ei : (0 : Int32) * 32 + nI j = nI j := by rw [show (0 : Int32) * 32 = 0 by decide, pq_0i]
  refine br_t rfl (br_f (nI_pos (by omega)) (br_t (nI_lt (b := 32) hj (by decide)) ⟨pk_in j 64 (by omega) ei, ?_⟩))
  rw [ei, nI_clamp (by omega)]
  exact h
theorem px_pul1 {post : Int32 → Prop} {j : Nat} (hj : j < 32) (h : post (x_pulses (32 + j))) : wpX_pulse post (x_length, x_low, x_encoderRange, x_cache, x_pending, x_readPosition, x_decoderRange, x_code, x_decoderStep, x_pulseCounts, x_coefs, x_energies, x_pulses, x_decoded, x_vec, x_sizes, x_packet) 1 (nI j) := by
  have ei : (1 : Int32) * 32 + nI j = nI (32 + j) := by rw [show (1 : Int32) * 32 = nI 32 by decide, nI_add]
  refine br_f (by decide) (br_t rfl (br_f (nI_pos (by omega)) (br_t (nI_lt (b := 32) hj (by decide)) ⟨pk_in (32 + j) 64 (by omega) ei, ?_⟩)))
  rw [ei, nI_clamp (by omega)]
  exact h
theorem px_enq0 {post : Int32 → Prop} {j : Nat} (hj : j < 4) (h : post (x_energies j)) : wpX_energyQ post (x_length, x_low, x_encoderRange, x_cache, x_pending, x_readPosition, x_decoderRange, x_code, x_decoderStep, x_pulseCounts, x_coefs, x_energies, x_pulses, x_decoded, x_vec, x_sizes, x_packet) 0 (nI j) := by
  have ei : (0 : Int32) * 4 + nI j = nI j := by rw [show (0 : Int32) * 4 = 0 by decide, pq_0i]
  refine br_t rfl (br_f (nI_pos (by omega)) (br_t (nI_lt (b := 4) hj (by decide)) ⟨pk_in j 8 (by omega) ei, ?_⟩))
  rw [ei, nI_clamp (by omega)]
  exact h
theorem px_enq1 {post : Int32 → Prop} {j : Nat} (hj : j < 4) (h : post (x_energies (4 + j))) : wpX_energyQ post (x_length, x_low, x_encoderRange, x_cache, x_pending, x_readPosition, x_decoderRange, x_code, x_decoderStep, x_pulseCounts, x_coefs, x_energies, x_pulses, x_decoded, x_vec, x_sizes, x_packet) 1 (nI j) := by
  have ei : (1 : Int32) * 4 + nI j = nI (4 + j) := by rw [show (1 : Int32) * 4 = nI 4 by decide, nI_add]
  refine br_f (by decide) (br_t rfl (br_f (nI_pos (by omega)) (br_t (nI_lt (b := 4) hj (by decide)) ⟨pk_in (4 + j) 8 (by omega) ei, ?_⟩)))
  rw [ei, nI_clamp (by omega)]
  exact h
theorem pl_41 {post : Int32 → St2 → Prop} (hl : le ≤ 64) (hp : ∀ i, i < 32 → x_pulses (32 + i) = x_pulses i) (h : post 1 (nI le, x_low, x_encoderRange, x_cache, x_pending, x_readPosition, x_decoderRange, x_code, x_decoderStep, x_pulseCounts, x_coefs, x_energies, x_pulses, x_decoded, x_vec, x_sizes, x_packet)) : ∀ d i, i + d = 32 → wL_frameMatches_41 post (nI le) x_low x_encoderRange x_cache x_pending x_readPosition x_decoderRange x_code x_decoderStep x_pulseCounts x_coefs x_energies x_pulses x_decoded x_vec x_sizes x_packet (d + 1) (nI i) := by
  intro d
  induction d with
  | zero =>
    intro i hi
    have e : i = 32 := by omega
    subst e
    exact br_t (nI_le (a := 32) (Nat.le_refl _) (by decide)) (br_f (nI_nlt (a := 64) hl (by decide)) h)
  | succ d ih =>
    intro i hi
    exact br_f (nI_ge (b := 32) (by omega) (by decide)) (px_pul1 (by omega) (px_pul0 (by omega) (br_t (hp i (by omega)) (nm_r (nI_1 i) (ih (i + 1) (by omega))))))
theorem pl_11 {post : Int32 → St2 → Prop} (hl : le ≤ 64) (hp : ∀ i, i < 32 → x_pulses (32 + i) = x_pulses i) (he : ∀ j, j < 4 → x_energies (4 + j) = x_energies j) (h : post 1 (nI le, x_low, x_encoderRange, x_cache, x_pending, x_readPosition, x_decoderRange, x_code, x_decoderStep, x_pulseCounts, x_coefs, x_energies, x_pulses, x_decoded, x_vec, x_sizes, x_packet)) : ∀ d i, i + d = 4 → wL_frameMatches_11 post (nI le) x_low x_encoderRange x_cache x_pending x_readPosition x_decoderRange x_code x_decoderStep x_pulseCounts x_coefs x_energies x_pulses x_decoded x_vec x_sizes x_packet (d + 1) (nI i) := by
  intro d
  induction d with
  | zero =>
    intro i hi
    have e : i = 4 := by omega
    subst e
    exact br_t (nI_le (a := 4) (Nat.le_refl _) (by decide)) ⟨33, pl_41 hl hp h 32 0 (by omega)⟩
  | succ d ih =>
    intro i hi
    exact br_f (nI_ge (b := 4) (by omega) (by decide)) (px_enq1 (by omega) (px_enq0 (by omega) (br_t (he i (by omega)) (nm_r (nI_1 i) (ih (i + 1) (by omega))))))
theorem pl_frame {post : Int32 → St2 → Prop} (I : pl_I le x_pulseCounts x_coefs x_energies x_vec x_sizes x_packet)
    (K : ∀ (le' : Nat) (lo rg : Int64) (ca pe rp : Int32) (dr cd ds : Int64) (en pu de pk : Nat → Int32), pl_I le' x_pulseCounts x_coefs en x_vec x_sizes pk → post 1 (nI le', lo, rg, ca, pe, rp, dr, cd, ds, x_pulseCounts, x_coefs, en, pu, de, x_vec, x_sizes, pk)) :
    wpL_frameMatches post (nI le, x_low, x_encoderRange, x_cache, x_pending, x_readPosition, x_decoderRange, x_code, x_decoderStep, x_pulseCounts, x_coefs, x_energies, x_pulses, x_decoded, x_vec, x_sizes, x_packet) := by
  obtain ⟨hl, hk, hc, hB, ht, hq, he, hv⟩ := I
  have W := pq_fl_w 5 _ _ (pq_eb_s (pq_clr_B hB 64) hc hk hq 4 (Nat.le_refl _)).1
  unfold wpL_frameMatches
  dsimp only
  refine px_encode hB ht hc hk hq ?_
  intro en pu a1 a2 a3 a4
  dsimp only
  refine px_decode (x_energies := en) (x_pulses := pu) W.2.2.2 W.2.2.1 ht hk ?_
  intro ds en2 pu2 de F b1 b2
  have back := pl_back (dq := fun j => en (4 + j)) (pq_clr_B hB 64) hc hk hq (by
    intro j hj
    show en (4 + j) = x_energies j
    rw [a2 (4 + j) (by omega), he j hj])
  have E1 : ∀ j, j < 4 → en2 (4 + j) = en2 j := by
    intro j hj
    have f1 : en2 (4 + j) = _ := F.1 j hj
    rw [f1, (back j hj).1, b1 j hj, a1 j hj]
  have P1 : ∀ i, i < 32 → pu2 (32 + i) = pu2 i := by
    refine pq_32 (f := fun i => pu2 (32 + i)) (g := pu2) ?_
    intro c j hc2 hj
    have f1 : pu2 (32 + (8 * c + j)) = _ := F.2.1 c j hc2 hj
    show pu2 (32 + (8 * c + j)) = pu2 (8 * c + j)
    rw [f1, (back c hc2).2 j hj, b2 (8 * c + j) (by omega), a3 c j hc2 hj]
  refine ⟨5, pl_11 W.2.2.1 P1 E1 (K _ _ _ _ _ _ _ _ _ _ _ _ _ ⟨W.2.2.1, hk, hc, W.2.2.2, ht, ?_, E1, hv⟩) 4 0 (by omega)⟩
  intro b hb
  exact ⟨pq_q x_coefs b, pq_q_le hc hb, by rw [b1 b hb, a1 b hb]⟩
theorem px_setCoef {post : Int32 → St2 → Prop} {j : Nat} {p v : Int32} (e : p = nI j) (hj : j < 32) (h : post 1 (x_length, x_low, x_encoderRange, x_cache, x_pending, x_readPosition, x_decoderRange, x_code, x_decoderStep, x_pulseCounts, (upd x_coefs j (pq_cl v (-32767) 32767)), x_energies, x_pulses, x_decoded, x_vec, x_sizes, x_packet)) : wpX_setCoef post (x_length, x_low, x_encoderRange, x_cache, x_pending, x_readPosition, x_decoderRange, x_code, x_decoderStep, x_pulseCounts, x_coefs, x_energies, x_pulses, x_decoded, x_vec, x_sizes, x_packet) p v := by
  subst e
  refine br_f (nI_pos (by omega)) (br_t (nI_lt (b := 32) hj (by decide)) (px_clamp ⟨vp_in_nI hj (by decide), nm_r (e' := upd x_coefs j (pq_cl v (-32767) 32767)) (by rw [nI_clamp (by omega)]) h⟩))
theorem px_setVec {post : Int32 → St2 → Prop} {j : Nat} {p v : Int32} (e : p = nI j) (hj : j < 8) (h : post 1 (x_length, x_low, x_encoderRange, x_cache, x_pending, x_readPosition, x_decoderRange, x_code, x_decoderStep, x_pulseCounts, x_coefs, x_energies, x_pulses, x_decoded, (upd x_vec j (pq_cl v (-16) 16)), x_sizes, x_packet)) : wpX_setVec post (x_length, x_low, x_encoderRange, x_cache, x_pending, x_readPosition, x_decoderRange, x_code, x_decoderStep, x_pulseCounts, x_coefs, x_energies, x_pulses, x_decoded, x_vec, x_sizes, x_packet) p v := by
  subst e
  refine br_f (nI_pos (by omega)) (br_t (nI_lt (b := 8) hj (by decide)) (px_clamp ⟨vp_in_nI hj (by decide), nm_r (e' := upd x_vec j (pq_cl v (-16) 16)) (by rw [nI_clamp (by omega)]) h⟩))
theorem px_vecAt {post : Int32 → Prop} {j : Nat} (hj : j < 8) (h : post (x_vec j)) : wpX_vecAt post (x_length, x_low, x_encoderRange, x_cache, x_pending, x_readPosition, x_decoderRange, x_code, x_decoderStep, x_pulseCounts, x_coefs, x_energies, x_pulses, x_decoded, x_vec, x_sizes, x_packet) (nI j) := by
  refine br_f (nI_pos (by omega)) (br_t (nI_lt (b := 8) hj (by decide)) ⟨vp_in_nI hj (by decide), ?_⟩)
  rw [nI_clamp (by omega)]
  exact h
theorem px_vecIndex {post : Int32 → Prop} {n : Nat} (h1 : 1 ≤ n) (hn : n ≤ 8) (ht : pq_tb x_sizes) (hv : ∀ i, i < 8 → pq_mg (x_vec i) ≤ 16) (h : post (pq_vi x_vec n)) : wpX_vecIndex post (x_length, x_low, x_encoderRange, x_cache, x_pending, x_readPosition, x_decoderRange, x_code, x_decoderStep, x_pulseCounts, x_coefs, x_energies, x_pulses, x_decoded, x_vec, x_sizes, x_packet) (nI n) :=
  br_f (nI_nlt (b := 1) h1 (by omega)) (br_t (nI_le (b := 8) hn (by decide)) ⟨n + 1, px_vi18 hn ht hv h n 0 (by omega)⟩)
theorem px_pyr {post : Int32 → Prop} {n k : Nat} (hn : n ≤ 8) (hk : k ≤ 16) (ht : pq_tb x_sizes) (h : post (nI (pq_V n k))) : wpX_pyramidSize post (x_length, x_low, x_encoderRange, x_cache, x_pending, x_readPosition, x_decoderRange, x_code, x_decoderStep, x_pulseCounts, x_coefs, x_energies, x_pulses, x_decoded, x_vec, x_sizes, x_packet) (nI n) (nI k) :=
  br_f (nI_pos (by omega)) (br_f (nI_nlt (a := 8) hn (by decide)) (br_f (nI_pos (by omega)) (br_t (nI_le (b := 16) hk (by decide)) (px_size (n := n) (k := k) ht hn hk rfl rfl h))))
theorem px_vecUn {post : Int32 → St2 → Prop} {n k r : Nat} (h1 : 1 ≤ n) (hn : n ≤ 8) (hk : k ≤ 16) (hr : r < pq_V n k) (ht : pq_tb x_sizes)
    (K : ∀ w : Nat → Int32, (∀ t, t < n → w t = pq_y n k r t) → (∀ t, n ≤ t → t < 8 → w t = 0) → post 1 (x_length, x_low, x_encoderRange, x_cache, x_pending, x_readPosition, x_decoderRange, x_code, x_decoderStep, x_pulseCounts, x_coefs, x_energies, x_pulses, x_decoded, w, x_sizes, x_packet)) : wpX_vecUnindex post (x_length, x_low, x_encoderRange, x_cache, x_pending, x_readPosition, x_decoderRange, x_code, x_decoderStep, x_pulseCounts, x_coefs, x_energies, x_pulses, x_decoded, x_vec, x_sizes, x_packet) (nI n) (nI k) (nI r) := by
  have hV := pq_Vle (n := n) (k := k) hn hk
  refine br_f (nI_nlt (b := 1) h1 (by omega)) (br_t (nI_le (b := 8) hn (by decide)) (br_f (nI_pos (by omega)) (br_t (nI_le (b := 16) hk (by decide)) (br_f (nI_pos (by omega)) (px_size (n := n) (k := k) ht hn hk rfl rfl (br_t (nI_lt hr (by omega)) (px_vecun (fr := 0) (n := n) (k := k) (r := r) ht hn (by omega) hk hr rfl rfl rfl rfl ?_)))))))
  intro c' g1 _
  exact ⟨8 - n + 1, px_vu56 (Y := pq_y n k r) hn K (8 - n) n c' (by omega) (Nat.le_refl _) (fun t ht => by have := g1 t ht; rw [Nat.zero_add] at this; exact this) (fun t a b => by omega)⟩
end PLA
end
section
/-! the law, walked -/
def pl_P (P j : Nat) (v : Nat → Int32) : Prop := P < 2 ^ (6 * j) ∧ ∀ t, t < j → nI (P / 2 ^ (6 * t) % 64) = v t + 16
theorem pl_P_s {P j w : Nat} {v v' : Nat → Int32} (h : pl_P P j v) (hw : w < 64) (e : v' j + 16 = nI w) (hv : ∀ t, t < j → v' t = v t) : pl_P (P + w * 2 ^ (6 * j)) (j + 1) v' := by
  obtain ⟨h1, h2⟩ := h
  have pj : 0 < 2 ^ (6 * j) := Nat.two_pow_pos _
  have p6 : 2 ^ (6 * (j + 1)) = 2 ^ (6 * j) * 64 := by rw [Nat.mul_add, Nat.pow_add]
  refine ⟨?_, ?_⟩
  · have m : w * 2 ^ (6 * j) ≤ 63 * 2 ^ (6 * j) := Nat.mul_le_mul_right _ (by omega)
    rw [p6]
    omega
  · intro t ht
    by_cases z : t = j
    · subst z
      rw [Nat.add_mul_div_right _ _ pj, Nat.div_eq_of_lt h1, Nat.zero_add, Nat.mod_eq_of_lt hw, e]
    · have e2 : 2 ^ (6 * j) = 64 * 2 ^ (6 * (j - t - 1)) * 2 ^ (6 * t) := by
        rw [show (64 : Nat) = 2 ^ 6 from rfl, ← Nat.pow_add, ← Nat.pow_add]
        congr 1
        omega
      have e3 : w * 2 ^ (6 * j) = w * 2 ^ (6 * (j - t - 1)) * 64 * 2 ^ (6 * t) := by
        rw [e2, Nat.mul_comm 64, ← Nat.mul_assoc, ← Nat.mul_assoc]
      rw [e3, Nat.add_mul_div_right _ _ (Nat.two_pow_pos _), Nat.add_mul_mod_self_right, h2 t (by omega), hv t (by omega)]
theorem pl_clz {z : Int32} (h : pq_mg z ≤ 16) : pq_cl z (-16) 16 = z := by
  unfold pq_mg at h
  have a : ¬ z < -16 := by
    rw [Int32.lt_iff_toInt_lt, show (-16 : Int32).toInt = -16 by decide]
    omega
  have b : ¬ 16 < z := by
    rw [Int32.lt_iff_toInt_lt, show (16 : Int32).toInt = 16 by decide]
    omega
  unfold pq_cl
  rw [if_neg a, if_neg b]
theorem pl_6 (j : Nat) : 6 * nI j = nI (6 * j) := by rw [show (6 : Int32) = nI 6 from rfl, pk_mul]
theorem pl_unpack {post : Int32 → Prop} {P j : Nat} (hP : P < 2 ^ 48) (hj : j < 8) (h : post (nI (P / 2 ^ (6 * j) % 64) - 16)) : wpL_unpack post () (lN P) (nI j) := by
  have d : P / 2 ^ (6 * j) ≤ P := Nat.div_le_self _ _
  unfold wpL_unpack
  rw [pl_6, wb_shr (by omega) (by omega), show (63 : Int64) = lN (64 - 1) from rfl, g_mask (s := 6) (p := 64) (by decide) (by decide) (by omega), lN_i]
  exact h
theorem pl_pack {post : Int64 → Prop} {P j w : Nat} {z : Int32} (hP : P < 2 ^ (6 * j)) (hj : j < 8) (hw : w < 64) (e : z + 16 = nI w) (h : post (lN (P + w * 2 ^ (6 * j)))) : wpL_pack post () (lN P) (nI j) z := by
  have p : 2 ^ (6 * j) ≤ 2 ^ 42 := Nat.pow_le_pow_right (by decide) (by omega)
  have m : w * 2 ^ (6 * j) ≤ 63 * 2 ^ (6 * j) := Nat.mul_le_mul_right _ (by omega)
  unfold wpL_pack
  rw [pl_6, e, nI_l (by omega), wb_shl w (by omega), g_or' (k := 6 * j) rfl hP (by omega)]
  exact h
def pl_V (j rem k P : Nat) (vec : Nat → Int32) : Prop := k + rem ≤ 16 ∧ (∀ i, i < 8 → pq_mg (vec i) ≤ 16) ∧ pq_S (fun i => pq_mg (vec i)) j = k ∧ pl_P P j vec
section PLB
variable {x_length x_cache x_pending x_readPosition : Int32} {x_low x_encoderRange x_decoderRange x_code x_decoderStep : Int64} {x_pulseCounts x_coefs x_energies x_pulses x_decoded x_vec x_sizes x_packet : Nat → Int32}
variable {le L : Nat} {xs : Nat → Int32} {post : Int32 → Prop} {kc ks t : Nat}
variable {J : Int32 → Int32 → Int64 → Int64 → Int32 → Int32 → Int32 → Int64 → Int64 → Int64 → (Nat → Int32) → (Nat → Int32) → (Nat → Int32) → (Nat → Int32) → (Nat → Int32) → (Nat → Int32) → (Nat → Int32) → (Nat → Int32) → Prop}
theorem pl_334 {n P : Nat} {idx : Int32} (h1 : 1 ≤ n) (hn : n ≤ 8) (ht : pq_tb x_sizes) (hv : ∀ i, i < 8 → pq_mg (x_vec i) ≤ 16) (hi : pq_vi x_vec n = idx) (hP : pl_P P n x_vec) (K : J (nI (t + 11)) x_length x_low x_encoderRange x_cache x_pending x_readPosition x_decoderRange x_code x_decoderStep x_pulseCounts x_coefs x_energies x_pulses x_decoded x_vec x_sizes x_packet) : ∀ d j, j + d = n → wL_law_334 post L xs J (nI t) (nI n) (lN P) idx kc ks x_length x_low x_encoderRange x_cache x_pending x_readPosition x_decoderRange x_code x_decoderStep x_pulseCounts x_coefs x_energies x_pulses x_decoded x_vec x_sizes x_packet (d + 1) (nI j) := by
  have p : 2 ^ (6 * n) ≤ 2 ^ 48 := Nat.pow_le_pow_right (by decide) (by omega)
  intro d
  induction d with
  | zero =>
    intro j hj
    exact br_t (nI_le (by omega) (by omega)) (px_vecIndex h1 hn ht hv (br_t hi (nm_r (nI_add t 11) K)))
  | succ d ih =>
    intro j hj
    have e := hP.2 j (by omega)
    have hPl := hP.1
    refine br_f (nI_ge (by omega) (by omega)) (px_vecAt (by omega) (pl_unpack (by omega) (by omega) (br_t ?_ (nm_r (nI_1 j) (ih (j + 1) (by omega))))))
    rw [e, Int32.add_sub_cancel]
theorem pl_182e {n rem k P : Nat} (h1 : 1 ≤ n) (hn : n ≤ 8) (ht : pq_tb x_sizes) (hV : pl_V n rem k P x_vec) (K : ∀ w : Nat → Int32, (∀ i, i < 8 → pq_mg (w i) ≤ 16) → J (nI (t + 11)) x_length x_low x_encoderRange x_cache x_pending x_readPosition x_decoderRange x_code x_decoderStep x_pulseCounts x_coefs x_energies x_pulses x_decoded w x_sizes x_packet) (f : Nat) : wL_law_182 post L xs J (nI t) (nI n) kc ks (f + 1) (nI rem) (lN P) (nI k) (nI 8) x_length x_low x_encoderRange x_cache x_pending x_readPosition x_decoderRange x_code x_decoderStep x_pulseCounts x_coefs x_energies x_pulses x_decoded x_vec x_sizes x_packet := by
  obtain ⟨v1, v2, v3, v4⟩ := hV
  have hM : pq_M x_vec 0 n = k := by rw [pq_M_0]; exact v3
  have hlt := pq_ix_lt x_vec n 0 k hn (by omega) hM
  have hVl := pq_Vle (n := n) (k := k) hn (by omega)
  have e : pq_vi x_vec n = nI (pq_ix x_vec 0 n k) := by
    unfold pq_vi
    rw [hM, if_pos (by omega)]
  refine br_t (nI_le (a := 8) (Nat.le_refl _) (by decide)) (px_vecIndex h1 hn ht v2 ?_)
  rw [e]
  refine br_f (nI_pos (by omega)) (px_pyr hn (by omega) ht (br_t (nI_lt hlt (by omega)) (px_vecUn h1 hn (by omega) hlt ht ?_)))
  intro w g1 g2
  have gw : ∀ i, i < n → w i = x_vec i := fun i hi => by rw [g1 i hi, pr_y hn (by omega) hM hi]
  have hw : ∀ i, i < 8 → pq_mg (w i) ≤ 16 := by
    intro i hi
    by_cases z : i < n
    · rw [gw i z]; exact v2 i hi
    · rw [g2 i (by omega) hi]; decide
  refine br_f (by decide) ⟨n + 1, pl_334 h1 hn ht hw ?_ ?_ (K w hw) n 0 (by omega)⟩
  · rw [pq_vi_ext gw, e]
  · exact ⟨v4.1, fun i hi => by rw [v4.2 i hi, gw i hi]⟩
theorem pl_182b {n rem k P : Nat} (hL : L ≤ 260) (ht0 : t ≤ 300) (h1 : 1 ≤ n) (hn : n ≤ 8) (ht : pq_tb x_sizes) (K : ∀ w : Nat → Int32, (∀ i, i < 8 → pq_mg (w i) ≤ 16) → J (nI (t + 11)) x_length x_low x_encoderRange x_cache x_pending x_readPosition x_decoderRange x_code x_decoderStep x_pulseCounts x_coefs x_energies x_pulses x_decoded w x_sizes x_packet) : ∀ d j (vec : Nat → Int32), j + d = 8 → n ≤ j → pl_V n rem k P vec → wL_law_182 post L xs J (nI t) (nI n) kc ks (d + 1) (nI rem) (lN P) (nI k) (nI j) x_length x_low x_encoderRange x_cache x_pending x_readPosition x_decoderRange x_code x_decoderStep x_pulseCounts x_coefs x_energies x_pulses x_decoded vec x_sizes x_packet := by
  intro d
  induction d with
  | zero =>
    intro j vec hj hnj hV
    have e : j = 8 := by omega
    subst e
    exact pl_182e h1 hn ht hV K 0
  | succ d ih =>
    intro j vec hj hnj hV
    refine br_f (nI_ge (b := 8) (by omega) (by decide)) (pl_cell (j := t + 3 + j) hL ?_ (by omega) ?_)
    · rw [show (3 : Int32) = nI 3 from rfl, nI_add, nI_add]
    · intro r
      refine br_t (nI_le hnj (by omega)) (px_setVec rfl (by omega) (nm_r (nI_1 j) (ih (j + 1) _ (by omega) (by omega) ?_)))
      obtain ⟨v1, v2, v3, v4⟩ := hV
      refine ⟨v1, ?_, ?_, v4.1, ?_⟩
      · intro i hi
        by_cases z : i = j
        · subst z; rw [pk_us]; exact pq_cl_m r (c := 16) (C := 16) (by decide) rfl
        · rw [pk_un z]; exact v2 i hi
      · rw [← v3]
        exact pq_S_ext n (fun i hi => by rw [pk_un (by omega)])
      · intro i hi
        rw [pk_un (by omega)]
        exact v4.2 i hi
theorem pl_241 {n rem k P j m w : Nat} {z : Int32} {J2 : Int32 → Int64 → Int32 → Int32 → Int32 → Int64 → Int64 → Int32 → Int32 → Int32 → Int64 → Int64 → Int64 → (Nat → Int32) → (Nat → Int32) → (Nat → Int32) → (Nat → Int32) → (Nat → Int32) → (Nat → Int32) → (Nat → Int32) → (Nat → Int32) → Prop} (hj : j < 8) (hm : pq_mg z = m) (hm2 : m ≤ rem) (hw : w < 64) (e : z + 16 = nI w) (hV : pl_V j rem k P x_vec)
    (K : ∀ vec : Nat → Int32, pl_V (j + 1) (rem - m) (k + m) (P + w * 2 ^ (6 * j)) vec → J2 (nI (rem - m)) (lN (P + w * 2 ^ (6 * j))) (nI (k + m)) (nI (j + 1)) x_length x_low x_encoderRange x_cache x_pending x_readPosition x_decoderRange x_code x_decoderStep x_pulseCounts x_coefs x_energies x_pulses x_decoded vec x_sizes x_packet) :
    wL_law_241 post L xs J J2 (nI t) (nI n) (nI (rem - m)) (lN P) (nI k) (nI j) (nI m) z kc ks x_length x_low x_encoderRange x_cache x_pending x_readPosition x_decoderRange x_code x_decoderStep x_pulseCounts x_coefs x_energies x_pulses x_decoded x_vec x_sizes x_packet := by
  obtain ⟨v1, v2, v3, v4⟩ := hV
  refine nm_r (nI_add k m) (px_setVec rfl hj (pl_pack v4.1 hj hw e (nm_r (nI_1 j) (K _ ?_))))
  rw [pl_clz (by omega)]
  refine ⟨by omega, ?_, ?_, pl_P_s v4 hw (by rw [pk_us]; exact e) (fun i hi => by rw [pk_un (by omega)])⟩
  · intro i hi
    by_cases y : i = j
    · subst y; rw [pk_us]; omega
    · rw [pk_un y]; exact v2 i hi
  · show pq_S (fun i => pq_mg (upd x_vec j z i)) j + pq_mg (upd x_vec j z j) = k + m
    rw [pk_us, hm, ← v3]
    congr 1
    exact pq_S_ext j (fun i hi => by rw [pk_un (by omega)])
theorem pl_182a {n : Nat} (hL : L ≤ 260) (ht0 : t ≤ 300) (h1 : 1 ≤ n) (hn : n ≤ 8) (ht : pq_tb x_sizes) (K : ∀ w : Nat → Int32, (∀ i, i < 8 → pq_mg (w i) ≤ 16) → J (nI (t + 11)) x_length x_low x_encoderRange x_cache x_pending x_readPosition x_decoderRange x_code x_decoderStep x_pulseCounts x_coefs x_energies x_pulses x_decoded w x_sizes x_packet) : ∀ d j rem k P (vec : Nat → Int32), j + d = n → pl_V j rem k P vec → wL_law_182 post L xs J (nI t) (nI n) kc ks (d + (8 - n + 1)) (nI rem) (lN P) (nI k) (nI j) x_length x_low x_encoderRange x_cache x_pending x_readPosition x_decoderRange x_code x_decoderStep x_pulseCounts x_coefs x_energies x_pulses x_decoded vec x_sizes x_packet := by
  intro d
  induction d with
  | zero =>
    intro j rem k P vec hj hV
    have e : j = n := by omega
    subst e
    rw [Nat.zero_add]
    exact pl_182b hL ht0 h1 hn ht K (8 - j) j vec (by omega) (Nat.le_refl _) hV
  | succ d ih =>
    intro j rem k P vec hj hV
    have v1 := hV.1
    rw [show d + 1 + (8 - n + 1) = d + (8 - n + 1) + 1 by omega]
    refine br_f (nI_ge (b := 8) (by omega) (by decide)) (pl_cell (j := t + 3 + j) hL ?_ (by omega) ?_)
    · rw [show (3 : Int32) = nI 3 from rfl, nI_add, nI_add]
    · intro r
      obtain ⟨N, hN, rfl⟩ := wb_of32 r
      have e1 : ((nI N).toUInt32 >>> ((1 : Int32).toUInt32 &&& Int32.toUInt32 31)).toInt32 = nI (N / 2 ^ 1) := pk_ushrN hN 1 1 (by decide)
      have hm : N / 2 ^ 1 % (rem + 1) < rem + 1 := Nat.mod_lt _ (by omega)
      refine br_f (nI_ge (by omega) (by omega)) ⟨?_, nm_r (e' := nI (N / 2 ^ 1 % (rem + 1))) ?_ (nm_r (e' := nI (rem - N / 2 ^ 1 % (rem + 1))) (pk_sub (by omega)) ?_)⟩
      · rw [nI_1]; exact nI_ne0 (by omega) (by omega)
      · rw [e1, nI_1]
        exact pk_rem (by omega) (by omega) (by omega)
      · generalize N / 2 ^ 1 % (rem + 1) = m at *
        by_cases z : (nI N &&& 1) = 0
        · refine br_t z (pl_241 (w := m + 16) (by omega) (pq_mg_nI (by omega)) (by omega) (by omega) (nI_add m 16) hV ?_)
          intro vec' hV'
          exact ih (j + 1) _ _ _ vec' (by omega) hV'
        · refine br_f z (pl_241 (w := 16 - m) (by omega) (pq_mg_neg (by omega)) (by omega) (by omega) ?_ hV ?_)
          · rw [← pk_sub (show m ≤ 16 by omega), Int32.add_comm, ← Int32.sub_eq_add_neg]
            rfl
          · intro vec' hV'
            exact ih (j + 1) _ _ _ vec' (by omega) hV'
theorem pl_94 {b : Nat} {sh : Int32} (hL : L ≤ 260) (ht0 : t ≤ 300) (hb : b < 4) (K : ∀ co : Nat → Int32, pq_HC co → J (nI (t + 11)) x_length x_low x_encoderRange x_cache x_pending x_readPosition x_decoderRange x_code x_decoderStep x_pulseCounts co x_energies x_pulses x_decoded x_vec x_sizes x_packet) : ∀ d i (co : Nat → Int32), i + d = 8 → pq_HC co → wL_law_94 post L xs J (nI t) (nI b) sh kc ks (d + 1) (nI i) x_length x_low x_encoderRange x_cache x_pending x_readPosition x_decoderRange x_code x_decoderStep x_pulseCounts co x_energies x_pulses x_decoded x_vec x_sizes x_packet := by
  intro d
  induction d with
  | zero =>
    intro i co hi hc
    have e : i = 8 := by omega
    subst e
    exact br_t (nI_le (a := 8) (Nat.le_refl _) (by decide)) (nm_r (nI_add t 11) (K co hc))
  | succ d ih =>
    intro i co hi hc
    refine br_f (nI_ge (b := 8) (by omega) (by decide)) (pl_cell (j := t + 3 + i) hL ?_ (by omega) ?_)
    · rw [show (3 : Int32) = nI 3 from rfl, nI_add, nI_add]
    · intro r
      refine px_setCoef (pq_8i b i) (by omega) (nm_r (nI_1 i) (ih (i + 1) _ (by omega) ?_))
      intro j hj
      by_cases z : j = 8 * b + i
      · rw [z, pk_us]; exact pq_cl_m _ (c := 32767) (C := 32767) (by decide) rfl
      · rw [pk_un z]; exact hc j hj
end PLB
end
section
section PLC
variable {x_length x_cache x_pending x_readPosition : Int32} {x_low x_encoderRange x_decoderRange x_code x_decoderStep : Int64} {x_pulseCounts x_coefs x_energies x_pulses x_decoded x_vec x_sizes x_packet : Nat → Int32}
theorem pl_50 {L : Nat} {xs : Nat → Int32} {kc ks : Nat} (hL : L ≤ 260) : ∀ d t (le : Nat) (lo rg : Int64) (ca pe rp : Int32) (dr cd ds : Int64) (pc co en pu de vec sz pk : Nat → Int32), L ≤ t + d → t ≤ 280 → pl_I le pc co en vec sz pk →
    wL_law_50 (fun r => r = 1) L xs kc ks (d + 1) (nI t) (nI le) lo rg ca pe rp dr cd ds pc co en pu de vec sz pk := by
  intro d
  induction d with
  | zero =>
    intro t le lo rg ca pe rp dr cd ds pc co en pu de vec sz pk h1 h2 I
    exact br_t (nI_le (by omega) (by omega)) (pl_frame I (fun _ _ _ _ _ _ _ _ _ _ _ _ _ _ => rfl))
  | succ d ih =>
    intro t le lo rg ca pe rp dr cd ds pc co en pu de vec sz pk h1 h2 I
    by_cases c : L ≤ t
    · exact br_t (nI_le c (by omega)) (pl_frame I (fun _ _ _ _ _ _ _ _ _ _ _ _ _ _ => rfl))
    · refine br_f (nI_ge (by omega) (by omega)) (pl_cell (j := t) hL rfl (by omega) (fun r => nm_e ?_))
      by_cases z0 : (r &&& 3) = 0
      · refine br_t z0 (pl_cell (j := t + 1) hL (nI_1 t) (by omega) (fun r2 => ?_))
        obtain ⟨b, hb, eb⟩ := pk_andE r2 (m := 3) 2 (by decide)
        refine nm_r eb (pl_cell (j := t + 2) hL (nI_add t 2) (by omega) (fun r3 => nm_e ⟨9, pl_94 hL (by omega) hb ?_ 8 0 co (by omega) I.2.2.1⟩))
        intro co' hc'
        exact ih (t + 11) le lo rg ca pe rp dr cd ds pc co' en pu de vec sz pk (by omega) (by omega) ⟨I.1, I.2.1, hc', I.2.2.2⟩
      · refine br_f z0 ?_
        by_cases z2 : (r &&& 3) = 2
        · refine br_t z2 (pl_cell (j := t + 1) hL (nI_1 t) (by omega) (fun r2 => ?_))
          obtain ⟨n, hn, en1⟩ := pk_andE r2 (m := 7) 3 (by decide)
          have hn2 : n < 8 := hn
          refine nm_r (e' := nI (n + 1)) (by rw [en1, nI_1]) (pl_cell (j := t + 2) hL (nI_add t 2) (by omega) (fun r3 => ⟨by decide, ?_⟩))
          obtain ⟨a, ha, ea⟩ := pk_andE r3 (m := 2147483647) 31 (by decide)
          have ha2 : a % 17 < 17 := Nat.mod_lt _ (by decide)
          refine nm_r (e' := nI (a % 17)) (by rw [ea]; exact pk_rem (d := 17) ha (by decide) (by decide)) ⟨n + 1 + (8 - (n + 1) + 1), pl_182a hL (by omega) (by omega) (by omega) I.2.2.2.2.1 ?_ (n + 1) 0 (a % 17) 0 0 vec (by omega) ⟨by omega, I.2.2.2.2.2.2.2, rfl, (by decide : 0 < 1), fun i hi => absurd hi (Nat.not_lt_zero i)⟩⟩
          intro w hw
          exact ih (t + 11) le lo rg ca pe rp dr cd ds pc co en pu de w sz pk (by omega) (by omega) ⟨I.1, I.2.1, I.2.2.1, I.2.2.2.1, I.2.2.2.2.1, I.2.2.2.2.2.1, I.2.2.2.2.2.2.1, hw⟩
        · refine br_f z2 (pl_frame I ?_)
          intro le' lo' rg' ca' pe' rp' dr' cd' ds' en' pu' de' pk' I'
          exact br_f (by decide) (nm_r (nI_1 t) (ih (t + 1) le' lo' rg' ca' pe' rp' dr' cd' ds' pc co en' pu' de' vec sz pk' (by omega) (by omega) I'))
end PLC
theorem i_vc (xs : Nat → Int32) (L : Nat) (hL : L ≤ 260) : wpL_law (fun r => r = 1) L xs := by
  unfold wpL_law
  refine pl_cell (j := 0) hL rfl (by decide) (fun r0 => pl_cell (j := 1) hL rfl (by decide) (fun r1 => pl_cell (j := 2) hL rfl (by decide) (fun r2 => pl_cell (j := 3) hL rfl (by decide) (fun r3 => ⟨8, 365, by decide, by decide, px_init ?_⟩))))
  intro t ht
  refine ⟨L + 1, pl_50 hL L 4 0 _ _ _ _ _ _ _ _ _ _ _ _ _ _ _ _ (by omega) (by decide) ⟨by decide, ?_, ?_, ?_, ht, ?_, fun _ _ => rfl, ?_⟩⟩
  · intro b hb
    have c0 := pq_cl_1 ((r0 &&& 15) + 1)
    have c1 := pq_cl_1 ((r1 &&& 15) + 1)
    have c2 := pq_cl_1 ((r2 &&& 15) + 1)
    have c3 := pq_cl_1 ((r3 &&& 15) + 1)
    by_cases b3 : b = 3
    · subst b3; rw [pk_us]; exact c3
    · rw [pk_un b3]
      by_cases b2 : b = 2
      · subst b2; rw [pk_us]; exact c2
      · rw [pk_un b2]
        by_cases b1 : b = 1
        · subst b1; rw [pk_us]; exact c1
        · rw [pk_un b1]
          have b0 : b = 0 := by omega
          subst b0; rw [pk_us]; exact c0
  · intro j _; exact (by decide : pq_mg 0 ≤ 32767)
  · intro i _; exact ⟨0, by decide, rfl⟩
  · intro b _; exact ⟨0, by decide, rfl⟩
  · intro i _; exact (by decide : pq_mg 0 ≤ 16)
end
