section
/-! rows pasted from the rows given for pasting -/
theorem pk_us {f : Nat → Int32} {k : Nat} {x : Int32} : upd f k x k = x := if_pos rfl
theorem pk_un {f : Nat → Int32} {k j : Nat} {x : Int32} (h : j ≠ k) : upd f k x j = f j := if_neg h
theorem pk_sub {a b : Nat} (h : b ≤ a) : nI a - nI b = nI (a - b) := by
  obtain ⟨c, rfl⟩ : ∃ c, a = c + b := ⟨a - b, by omega⟩
  rw [← nI_add, Int32.add_sub_cancel, Nat.add_sub_cancel]
theorem pk_m1 (n : Nat) : nI (n + 1) + (-1) = nI n := by
  rw [← nI_1, Int32.add_assoc, show (1 : Int32) + (-1) = 0 from rfl, Int32.add_zero]
theorem pk_mul (a b : Nat) : nI a * nI b = nI (a * b) := (Int32.ofNat_mul a b).symm
theorem pk_div {a d : Nat} (ha : a < 2 ^ 31) (h0 : 0 < d) (hd : d < 2 ^ 31) : nI a / nI d = nI (a / d) := by
  apply Int32.toInt_inj.mp
  rw [lg_idiv_nonneg (by rw [nI_toInt ha]; omega) (by rw [nI_toInt hd]; omega), nI_toInt ha, nI_toInt hd, nI_toInt (Nat.lt_of_le_of_lt (Nat.div_le_self a d) ha)]
  first | rfl | exact (Int.natCast_ediv _ _).symm
theorem pk_rem {a d : Nat} (ha : a < 2 ^ 31) (h0 : 0 < d) (hd : d < 2 ^ 31) : nI a - nI a / nI d * nI d = nI (a % d) := by
  rw [pk_div ha h0 hd, pk_mul, pk_sub (Nat.div_mul_le_self a d)]
  exact congrArg nI (by have := Nat.div_add_mod' a d; omega)
theorem pk_sub_toInt {a b : Nat} (ha : a < 2 ^ 30) (hb : b < 2 ^ 30) : (nI a - nI b).toInt = (a : Int) - b := by
  rw [Int32.toInt_sub, nI_toInt (by omega), nI_toInt (by omega)]
  exact Int.bmod_eq_of_le (by omega) (by omega)
theorem pk_sneg {a b : Nat} (hb : b < 2 ^ 30) (h : a < b) : nI a - nI b < 0 := by
  rw [Int32.lt_iff_toInt_lt, pk_sub_toInt (by omega) hb, show (0 : Int32).toInt = 0 from by decide]
  omega
theorem pk_ix (x : Int32) {n : Nat} (hn : n < 2 ^ 31) : x < 0 ∨ nI n ≤ x ∨ ∃ j : Nat, j < n ∧ x = nI j := by
  by_cases h : x < 0
  · exact Or.inl h
  · obtain ⟨j, hj, rfl⟩ := nI_of h
    by_cases h2 : j < n
    · exact Or.inr (Or.inr ⟨j, h2, rfl⟩)
    · exact Or.inr (Or.inl (nI_le (by omega) hj))
theorem pk_le {x y : Int32} {A B : Prop} (a b : Nat) (f : a ≤ b → A) (g : b < a → B) (hx : x = nI a := by rfl) (hy : y = nI b := by rfl) (ha : a < 2 ^ 31 := by omega) (hb : b < 2 ^ 31 := by omega) : (x ≤ y → A) ∧ (¬ x ≤ y → B) := by
  subst hx hy
  rw [nI_leI ha hb]
  exact ⟨f, fun z => g (by omega)⟩
theorem pk_lt {x y : Int32} {A B : Prop} (a b : Nat) (f : a < b → A) (g : b ≤ a → B) (hx : x = nI a := by rfl) (hy : y = nI b := by rfl) (ha : a < 2 ^ 31 := by omega) (hb : b < 2 ^ 31 := by omega) : (x < y → A) ∧ (¬ x < y → B) := by
  subst hx hy
  rw [nI_ltI ha hb]
  exact ⟨f, fun z => g (by omega)⟩
theorem pk_eq {x y : Int32} {A B : Prop} (a b : Nat) (f : a = b → A) (g : a ≠ b → B) (hx : x = nI a := by rfl) (hy : y = nI b := by rfl) (ha : a < 2 ^ 31 := by omega) (hb : b < 2 ^ 31 := by omega) : (x = y → A) ∧ (¬ x = y → B) := by
  subst hx hy
  rw [nI_eq ha hb]
  exact ⟨f, g⟩
theorem pk_in {x : Int32} (n N : Nat) (h : n < N) (hx : x = nI n := by rfl) (hN : N < 2 ^ 31 := by omega) : vp_in x N := by
  subst hx
  exact vp_in_nI h hN
theorem pk_cl {x : Int32} (n : Nat) (hx : x = nI n := by rfl) (h : n < 2 ^ 31 := by omega) : x.toNatClampNeg = n := by
  subst hx
  exact nI_clamp h
theorem pk_tn {n : Nat} (h : n < 2 ^ 32) : (nI n).toBitVec.toNat = n := Nat.mod_eq_of_lt h
theorem pk_and (x : Int32) {m : Int32} (k : Nat) (hm : m.toBitVec.toNat = 2 ^ k - 1) : x &&& m = nI (x.toBitVec.toNat % 2 ^ k) := by
  apply Int32.toBitVec_inj.mp
  apply BitVec.eq_of_toNat_eq
  rw [Int32.toBitVec_and, BitVec.toNat_and, hm, Nat.and_two_pow_sub_one_eq_mod]
  show _ = (BitVec.ofNat 32 _).toNat
  rw [BitVec.toNat_ofNat]
  exact (Nat.mod_eq_of_lt (Nat.lt_of_le_of_lt (Nat.mod_le _ _) x.toBitVec.isLt)).symm
theorem pk_andN {n : Nat} (h : n < 2 ^ 32) {m : Int32} (k : Nat) (hm : m.toBitVec.toNat = 2 ^ k - 1) : nI n &&& m = nI (n % 2 ^ k) := by
  rw [pk_and _ k hm, pk_tn h]
theorem pk_andE (x : Int32) {m : Int32} (k : Nat) (hm : m.toBitVec.toNat = 2 ^ k - 1) : ∃ j : Nat, j < 2 ^ k ∧ x &&& m = nI j := ⟨_, Nat.mod_lt _ (Nat.two_pow_pos k), pk_and x k hm⟩
theorem pk_shl (a s : Int32) (k : Nat) (hs : (s.toBitVec.smod 32).toNat = k) : (a <<< s).toBitVec.toNat = a.toBitVec.toNat * 2 ^ k % 2 ^ 32 := by
  show (a.toBitVec <<< (s.toBitVec.smod 32).toNat).toNat = _
  rw [hs, BitVec.toNat_shiftLeft, Nat.shiftLeft_eq]
theorem pk_shlN {n : Nat} (s : Int32) (k : Nat) (hs : (s.toBitVec.smod 32).toNat = k) (h : n * 2 ^ k < 2 ^ 32) : nI n <<< s = nI (n * 2 ^ k) := by
  apply Int32.toBitVec_inj.mp
  apply BitVec.eq_of_toNat_eq
  have hn : n < 2 ^ 32 := Nat.lt_of_le_of_lt (Nat.le_mul_of_pos_right n (Nat.two_pow_pos k)) h
  rw [pk_shl _ _ k hs, pk_tn hn, pk_tn h, Nat.mod_eq_of_lt h]
theorem pk_shr (a s : Int32) (k : Nat) (hs : (s.toBitVec.smod 32).toNat = k) : (a >>> s).toInt = a.toInt >>> k := by
  show (a.toBitVec.sshiftRight (s.toBitVec.smod 32).toNat).toInt = _
  rw [hs, BitVec.toInt_sshiftRight]
  rfl
theorem pk_shrN {n : Nat} (h : n < 2 ^ 31) (s : Int32) (k : Nat) (hs : (s.toBitVec.smod 32).toNat = k) : nI n >>> s = nI (n / 2 ^ k) := by
  apply Int32.toInt_inj.mp
  have h2 : n / 2 ^ k ≤ n := Nat.div_le_self _ _
  rw [pk_shr _ _ k hs, nI_toInt h, nI_toInt (by omega), Int.shiftRight_eq_div_pow]
  rfl
theorem pk_lT {n : Nat} (h : n < 2 ^ 63) : (lN n).toInt = (n : Int) := lg_ofNat_toInt h
theorem pk_lLT {a b : Nat} (ha : a < 2 ^ 63) (hb : b < 2 ^ 63) : lN a < lN b ↔ a < b := by
  rw [Int64.lt_iff_toInt_lt, pk_lT ha, pk_lT hb]; omega
theorem pk_lLE {a b : Nat} (ha : a < 2 ^ 63) (hb : b < 2 ^ 63) : lN a ≤ lN b ↔ a ≤ b := by
  rw [Int64.le_iff_toInt_le, pk_lT ha, pk_lT hb]; omega
theorem pk_lEQ {a b : Nat} (ha : a < 2 ^ 63) (hb : b < 2 ^ 63) : lN a = lN b ↔ a = b := by
  rw [← Int64.toInt_inj, pk_lT ha, pk_lT hb]; omega
theorem pk_lOf {x : Int64} (h : ¬ x < 0) : ∃ k : Nat, k < 2 ^ 63 ∧ x = lN k := by
  rw [Int64.lt_iff_toInt_lt] at h
  have h0 : (0 : Int64).toInt = 0 := by decide
  have hx := Int64.toInt_lt x
  refine ⟨x.toInt.toNat, by omega, Int64.toInt_inj.mp ?_⟩
  rw [pk_lT (by omega)]
  omega
theorem pk_lDiv {a b : Nat} (ha : a < 2 ^ 63) (h0 : 0 < b) (hb : b < 2 ^ 63) : lN a / lN b = lN (a / b) := by
  apply Int64.toInt_inj.mp
  rw [lg_ldiv_nonneg (by rw [pk_lT ha]; omega) (by rw [pk_lT hb]; omega), pk_lT ha, pk_lT hb, pk_lT (Nat.lt_of_le_of_lt (Nat.div_le_self a b) ha)]
  rfl
theorem pk_lRem {a b : Nat} (ha : a < 2 ^ 63) (h0 : 0 < b) (hb : b < 2 ^ 63) : lN a - lN a / lN b * lN b = lN (a % b) := by
  rw [pk_lDiv ha h0 hb, lN_mul, lN_sub (Nat.div_mul_le_self a b)]
  exact congrArg lN (by have := Nat.div_add_mod' a b; omega)
theorem pk_least (P : Nat → Prop) (h : ∃ k, P k) : ∃ k, P k ∧ ∀ j, j < k → ¬ P j := by
  obtain ⟨k, hk⟩ := h
  induction k using Nat.strongRecOn with
  | ind k ih =>
    by_cases e : ∃ j, j < k ∧ P j
    · obtain ⟨j, hj, pj⟩ := e
      exact ih j hj pj
    · exact ⟨k, hk, fun j hj pj => e ⟨j, hj, pj⟩⟩
theorem sb_negT {w : Nat} (h : w < 2 ^ 31) : (-nI w).toInt = -(w : Int) := by
  rw [Int32.toInt_neg, nI_toInt h]
  exact Int.bmod_eq_of_le (by omega) (by omega)
theorem s_l : ∀ n, n < 32 → ((nI n &&& 31).toBitVec.smod 32).toNat = n := by decide +kernel
theorem wb_tb (n : Nat) : (lN n).toBitVec = BitVec.ofNat 64 n := rfl
theorem wb_inj {a b : Int64} (h : a.toBitVec = b.toBitVec) : a = b := Int64.toBitVec_inj.mp h
theorem wb_tn {n : Nat} (h : n < 2 ^ 64) : (lN n).toBitVec.toNat = n := by rw [wb_tb, BitVec.toNat_ofNat, Nat.mod_eq_of_lt h]
theorem wb_c : ∀ k, k < 64 → ((nI k).toInt64 &&& 63) = lN k := by decide +kernel
theorem wb_cu : ∀ k, k < 64 → ((nI k).toInt64.toUInt64 &&& Int64.toUInt64 63) = UInt64.ofNat k := by decide +kernel
theorem wb_sm : ∀ k, k < 64 → (BitVec.ofNat 64 k).smod 64 = BitVec.ofNat 64 k := by decide +kernel
theorem wb_pw {a b : Nat} (h : a ≤ b) : 2 ^ b = 2 ^ a * 2 ^ (b - a) := by rw [← Nat.pow_add]; congr 1; omega
theorem wb_lt2 {a b : Nat} (h : a < b) : 2 ^ a < 2 ^ b := Nat.pow_lt_pow_right (by decide) h
theorem wb_shr {n k : Nat} (hn : n < 2 ^ 64) (hk : k < 64) : ((lN n).toUInt64 >>> ((nI k).toInt64.toUInt64 &&& Int64.toUInt64 63)).toInt64 = lN (n / 2 ^ k) := by
  rw [wb_cu k hk]
  apply wb_inj
  apply BitVec.eq_of_toNat_eq
  show ((lN n).toUInt64 >>> UInt64.ofNat k).toNat = (BitVec.ofNat 64 _).toNat
  have h1 : (UInt64.ofNat k).toNat = k := by
    show (BitVec.ofNat 64 k).toNat = k
    rw [BitVec.toNat_ofNat, Nat.mod_eq_of_lt (by omega)]
  have h2 : (lN n).toUInt64.toNat = n := wb_tn hn
  rw [UInt64.toNat_shiftRight, h1, h2, Nat.mod_eq_of_lt hk, Nat.shiftRight_eq_div_pow, BitVec.toNat_ofNat, Nat.mod_eq_of_lt (Nat.lt_of_le_of_lt (Nat.div_le_self _ _) hn)]
theorem wb_shl (n : Nat) {k : Nat} (hk : k < 64) : lN n <<< ((nI k).toInt64 &&& 63) = lN (n * 2 ^ k) := by
  rw [wb_c k hk]
  apply wb_inj
  rw [Int64.toBitVec_shiftLeft, wb_tb, wb_tb, wb_tb, wb_sm k hk]
  apply BitVec.eq_of_toNat_eq
  rw [BitVec.shiftLeft_eq', BitVec.toNat_shiftLeft, BitVec.toNat_ofNat, BitVec.toNat_ofNat, BitVec.toNat_ofNat, Nat.mod_eq_of_lt (show k < 2 ^ 64 by omega), Nat.shiftLeft_eq, Nat.mul_mod, Nat.mod_mod, ← Nat.mul_mod]
theorem wb_and {a b : Nat} (ha : a < 2 ^ 64) (hb : b < 2 ^ 64) : lN a &&& lN b = lN (a &&& b) := by
  apply wb_inj
  rw [Int64.toBitVec_and, wb_tb, wb_tb, wb_tb]
  apply BitVec.eq_of_toNat_eq
  rw [BitVec.toNat_and, BitVec.toNat_ofNat, BitVec.toNat_ofNat, BitVec.toNat_ofNat, Nat.mod_eq_of_lt ha, Nat.mod_eq_of_lt hb, Nat.mod_eq_of_lt (Nat.and_lt_two_pow _ hb)]
theorem wb_mask {n k : Nat} (hn : n < 2 ^ 64) (hk : k < 64) : lN n &&& lN (2 ^ k - 1) = lN (n % 2 ^ k) := by
  rw [wb_and hn (by have := wb_lt2 hk; omega), Nat.and_two_pow_sub_one_eq_mod]
theorem u_tn {n : Nat} (h : n < 2 ^ 64) : (UInt64.ofNat n).toNat = n := Nat.mod_eq_of_lt h
theorem g_and {a b c : Nat} (ha : a < 2 ^ 64) (hb : b < 2 ^ 64) (hc : a &&& b = c) : lN a &&& lN b = lN c := by
  subst hc
  have h : UInt64.ofNat a &&& UInt64.ofNat b = UInt64.ofNat (a &&& b) := UInt64.toNat_inj.mp (by rw [UInt64.toNat_and, u_tn ha, u_tn hb, u_tn (Nat.and_lt_two_pow a hb)])
  have h2 := congrArg UInt64.toInt64 h
  exact h2
theorem g_mask {a s p : Nat} (hp : 2 ^ s = p) (hs : s < 64) (ha : a < 2 ^ 64) : lN a &&& lN (p - 1) = lN (a % p) := by
  subst hp
  have := Nat.pow_lt_pow_right (show 1 < 2 by decide) hs
  exact g_and ha (by omega) (Nat.and_two_pow_sub_one_eq_mod a s)
theorem g_ushr {a k p : Nat} {y : UInt64} (hy : y = UInt64.ofNat k) (hk : k < 64) (hp : 2 ^ k = p) (ha : a < 2 ^ 64) : ((lN a).toUInt64 >>> y).toInt64 = lN (a / p) := by
  subst hy hp
  have h : UInt64.ofNat a >>> UInt64.ofNat k = UInt64.ofNat (a / 2 ^ k) := UInt64.toNat_inj.mp (by rw [UInt64.toNat_shiftRight, u_tn ha, u_tn (by omega), u_tn (Nat.lt_of_le_of_lt (Nat.div_le_self _ _) ha), Nat.mod_eq_of_lt hk, Nat.shiftRight_eq_div_pow])
  have h2 := congrArg UInt64.toInt64 h
  exact h2
theorem g_shl {a k p : Nat} {y : Int64} (hy : y.toBitVec.smod 64 = BitVec.ofNat 64 k) (hk : k < 64) (hp : 2 ^ k = p) (ha : a < 2 ^ 64) : lN a <<< y = lN (a * p) := by
  subst hp
  apply Int64.toBitVec_inj.mp
  rw [Int64.toBitVec_shiftLeft, hy]
  apply BitVec.eq_of_toNat_eq
  have hb : (lN a).toBitVec.toNat = a := Nat.mod_eq_of_lt ha
  have hk' : (BitVec.ofNat 64 k).toNat = k := Nat.mod_eq_of_lt (by omega)
  have h : ((lN a).toBitVec <<< BitVec.ofNat 64 k).toNat = (a * 2 ^ k) % 2 ^ 64 := by simp only [BitVec.shiftLeft_eq', BitVec.toNat_shiftLeft, hb, hk', Nat.shiftLeft_eq]
  exact h
theorem pf_lI {a : Nat} (h : a < 2 ^ 63) : (lN a).toInt = (a : Int) := lg_ofNat_toInt h
theorem pf_shr {a d : Nat} {D : Int64} (hD : (D.toBitVec.smod 64).toNat = d) (h : a < 2 ^ 62) : lN a >>> D = lN (a / 2 ^ d) := by
  have hd : a / 2 ^ d ≤ a := Nat.div_le_self _ _
  apply Int64.toInt_inj.mp
  have e : (lN a >>> D).toInt = (lN a).toInt >>> d := by
    rw [← hD]
    exact BitVec.toInt_sshiftRight ..
  rw [e, Int.shiftRight_eq_div_pow, pf_lI (by omega), pf_lI (by omega)]
  rfl
theorem pf_ushr {a d : Nat} {D : UInt64} (hD : D.toNat % 64 = d) (h : a < 2 ^ 62) : ((lN a).toUInt64 >>> D).toInt64 = lN (a / 2 ^ d) := by
  have hd : a / 2 ^ d ≤ a := Nat.div_le_self _ _
  have e : (lN a).toUInt64 >>> D = UInt64.ofNat (a / 2 ^ d) := UInt64.toNat_inj.mp (by
    rw [UInt64.toNat_shiftRight, hD, Nat.shiftRight_eq_div_pow, UInt64.toNat_ofNat']
    show (UInt64.ofNat a).toNat / 2 ^ d = _
    rw [UInt64.toNat_ofNat', Nat.mod_eq_of_lt (by omega), Nat.mod_eq_of_lt (by omega)])
  rw [e]
  rfl
end
section
/-! magnitudes -/
def pq_mg (x : Int32) : Nat := x.toInt.natAbs
theorem pq_mg_nI {m : Nat} (h : m < 2 ^ 31) : pq_mg (nI m) = m := by
  rw [pq_mg, nI_toInt h, Int.natAbs_natCast]
theorem pq_mg_neg {m : Nat} (h : m < 2 ^ 31) : pq_mg (-nI m) = m := by
  rw [pq_mg, sb_negT h, Int.natAbs_neg, Int.natAbs_natCast]
theorem pq_mg_p {x : Int32} (h : ¬ x < 0) : x = nI (pq_mg x) := by
  obtain ⟨j, hj, rfl⟩ := nI_of h
  rw [pq_mg_nI hj]
theorem pq_z32 : (0 : Int32).toInt = 0 := by decide
theorem pq_z64 : (0 : Int64).toInt = 0 := by decide
theorem pq_tneg {x : Int32} (h : x < 0) : x.toInt < 0 := by
  have h2 := Int32.lt_iff_toInt_lt.mp h
  rw [pq_z32] at h2
  exact h2
theorem pq_mg_e {x : Int32} (h : x < 0) : x.toInt = -((pq_mg x : Nat) : Int) := by
  have h1 := pq_tneg h
  unfold pq_mg
  omega
theorem pq_mg_n {x : Int32} (h : x < 0) : -x = nI (pq_mg x) := by
  have h2 := pq_mg_e h
  have h3 : x = Int32.ofInt (-((pq_mg x : Nat) : Int)) := by rw [← h2, Int32.ofInt_toInt]
  have h4 : -x = - Int32.ofInt (-((pq_mg x : Nat) : Int)) := congrArg Neg.neg h3
  rw [h4, Int32.neg_ofInt, Int.neg_neg, Int32.ofInt_eq_ofNat]
  rfl
theorem pq_mg_1 {x : Int32} (h : x < 0) : 1 ≤ pq_mg x := by
  have h1 := pq_tneg h
  unfold pq_mg
  omega
theorem pq_neg_lt {m : Nat} (h0 : 0 < m) (h : m < 2 ^ 31) : -nI m < 0 := by
  rw [Int32.lt_iff_toInt_lt, sb_negT h, pq_z32]
  omega
theorem pq_mgL (x : Int32) : x.toInt64 * x.toInt64 = lN (pq_mg x * pq_mg x) := by
  rw [← Int64.ofInt_int32ToInt, ← Int64.ofInt_mul, ← Int.natAbs_mul_self, Int64.ofInt_eq_ofNat]
  rfl
theorem pq_L_lt {x : Int32} : x.toInt64 < 0 ↔ x < 0 := by
  rw [Int64.lt_iff_toInt_lt, Int32.lt_iff_toInt_lt, Int32.toInt_toInt64, pq_z32, pq_z64]
theorem pq_L_n {x : Int32} (h : x < 0) : -x.toInt64 = lN (pq_mg x) := by
  have h2 := pq_mg_e h
  have h3 : -x.toInt = ((pq_mg x : Nat) : Int) := by omega
  rw [← Int64.ofInt_int32ToInt, Int64.neg_ofInt, h3, Int64.ofInt_eq_ofNat]
  rfl
theorem pq_L_p {x : Int32} (h : ¬ x < 0) : x.toInt64 = lN (pq_mg x) := by
  obtain ⟨j, hj, rfl⟩ := nI_of h
  rw [pq_mg_nI hj, nI_l hj]
theorem pq_mg_l {x : Int32} (h : pq_mg x < 2 ^ 31) : (nI (pq_mg x)).toInt64 = lN (pq_mg x) := nI_l h
/-! sums, and the largest place below a value -/
def pq_S (f : Nat → Nat) : Nat → Nat
  | 0 => 0
  | k + 1 => pq_S f k + f k
theorem pq_S_mono (f : Nat → Nat) {a : Nat} : ∀ {b : Nat}, a ≤ b → pq_S f a ≤ pq_S f b := by
  intro b
  induction b with
  | zero => intro h; rw [Nat.le_zero.mp h]; exact Nat.le_refl _
  | succ b ih =>
    intro h
    by_cases e : a = b + 1
    · subst e; exact Nat.le_refl _
    · have h1 := ih (by omega)
      show pq_S f a ≤ pq_S f b + f b
      omega
theorem pq_S_le (f : Nat → Nat) (c : Nat) : ∀ n, (∀ j, j < n → f j ≤ c) → pq_S f n ≤ n * c := by
  intro n
  induction n with
  | zero => intro _; exact Nat.zero_le _
  | succ n ih =>
    intro h
    have h1 := ih (fun j hj => h j (by omega))
    have h2 := h n (by omega)
    show pq_S f n + f n ≤ (n + 1) * c
    rw [Nat.add_mul, Nat.one_mul]
    omega
theorem pq_S_ge (f : Nat → Nat) {n : Nat} : ∀ {j : Nat}, j < n → f j ≤ pq_S f n := by
  induction n with
  | zero => intro j h; omega
  | succ n ih =>
    intro j h
    show f j ≤ pq_S f n + f n
    by_cases e : j = n
    · subst e; omega
    · have := ih (j := j) (by omega); omega
theorem pq_S_ext {f g : Nat → Nat} : ∀ n, (∀ j, j < n → f j = g j) → pq_S f n = pq_S g n := by
  intro n
  induction n with
  | zero => intro _; rfl
  | succ n ih =>
    intro h
    show pq_S f n + f n = pq_S g n + g n
    rw [ih (fun j hj => h j (by omega)), h n (by omega)]
def pq_lg (g : Nat → Nat) (r : Nat) : Nat → Nat
  | 0 => 0
  | K + 1 => if g (K + 1) ≤ r then K + 1 else pq_lg g r K
theorem pq_lg_s (g : Nat → Nat) (r : Nat) (h0 : g 0 ≤ r) : ∀ K, r < g (K + 1) → g (pq_lg g r K) ≤ r ∧ r < g (pq_lg g r K + 1) ∧ pq_lg g r K ≤ K := by
  intro K
  induction K with
  | zero => intro h; exact ⟨h0, h, Nat.le_refl _⟩
  | succ K ih =>
    intro h
    unfold pq_lg
    by_cases c : g (K + 1) ≤ r
    · rw [if_pos c]; exact ⟨c, h, Nat.le_refl _⟩
    · rw [if_neg c]
      have ⟨a, b, d⟩ := ih (by omega)
      exact ⟨a, b, by omega⟩
/-! the pyramid -/
def pq_T : List Nat := [1, 0, 0, 0, 0, 0, 0, 0, 0, 0, 0, 0, 0, 0, 0, 0, 0, 1, 2, 2, 2, 2, 2, 2, 2, 2, 2, 2, 2, 2, 2, 2, 2, 2, 1, 4, 8, 12, 16, 20, 24, 28, 32, 36, 40, 44, 48, 52, 56, 60, 64, 1, 6, 18, 38, 66, 102, 146, 198, 258, 326, 402, 486, 578, 678, 786, 902, 1026, 1, 8, 32, 88, 192, 360, 608, 952, 1408, 1992, 2720, 3608, 4672, 5928, 7392, 9080, 11008, 1, 10, 50, 170, 450, 1002, 1970, 3530, 5890, 9290, 14002, 20330, 28610, 39210, 52530, 69002, 89090, 1, 12, 72, 292, 912, 2364, 5336, 10836, 20256, 35436, 58728, 93060, 142000, 209820, 301560, 423092, 581184, 1, 14, 98, 462, 1666, 4942, 12642, 28814, 59906, 115598, 209762, 361550, 596610, 948430, 1459810, 2184462, 3188738, 1, 16, 128, 688, 2816, 9424, 27008, 68464, 157184, 332688, 658048, 1229360, 2187520, 3732560, 6140800, 9785072, 15158272]
def pq_t (j : Nat) : Nat := pq_T.getD j 0
def pq_V (n k : Nat) : Nat := pq_t (n * 17 + k)
theorem pq_row : ∀ n, n < 8 → ∀ k, k < 17 → pq_V (n + 1) k = pq_V n k + 2 * pq_S (pq_V n) k := by decide +kernel
theorem pq_tle0 : ∀ j, j < 153 → pq_t j ≤ 15158272 := by decide +kernel
theorem pq_Vle {n k : Nat} (hn : n ≤ 8) (hk : k ≤ 16) : pq_V n k ≤ 15158272 := pq_tle0 _ (by omega)
theorem pq_Vpos : ∀ k, k < 17 → 1 ≤ pq_V 8 k := by decide +kernel
def pq_W (n k : Nat) : Nat → Nat
  | 0 => 0
  | m + 1 => pq_W n k m + (if m = 0 then 1 else 2) * pq_V n (k - m)
theorem pq_full : ∀ n, n < 8 → ∀ k, k < 17 → pq_W n k (k + 1) = pq_V (n + 1) k := by decide +kernel
theorem pq_W_mono (n k : Nat) {a : Nat} : ∀ {b : Nat}, a ≤ b → pq_W n k a ≤ pq_W n k b := by
  intro b
  induction b with
  | zero => intro h; rw [Nat.le_zero.mp h]; exact Nat.le_refl _
  | succ b ih =>
    intro h
    by_cases e : a = b + 1
    · subst e; exact Nat.le_refl _
    · have h1 := ih (by omega)
      show pq_W n k a ≤ pq_W n k b + _
      omega
def pq_ix (a : Nat → Int32) : Nat → Nat → Nat → Nat
  | _, 0, _ => 0
  | i, n + 1, k => pq_W n k (pq_mg (a i)) + (if a i < 0 then pq_V n (k - pq_mg (a i)) else 0) + pq_ix a (i + 1) n (k - pq_mg (a i))
def pq_M (a : Nat → Int32) : Nat → Nat → Nat
  | _, 0 => 0
  | i, n + 1 => pq_mg (a i) + pq_M a (i + 1) n
theorem pq_ix_lt (a : Nat → Int32) : ∀ n i k, n ≤ 8 → k ≤ 16 → pq_M a i n = k → pq_ix a i n k < pq_V n k := by
  intro n
  induction n with
  | zero =>
    intro i k _ _ h
    have h2 : k = 0 := h.symm
    subst h2
    show 0 < pq_V 0 0
    decide +kernel
  | succ n ih =>
    intro i k hn hk h
    have h2 : pq_mg (a i) + pq_M a (i + 1) n = k := h
    have h3 := ih (i + 1) (k - pq_mg (a i)) (by omega) (by omega) (by omega)
    have h4 := pq_full n (by omega) k (by omega)
    have h5 : pq_W n k (pq_mg (a i) + 1) ≤ pq_W n k (k + 1) := pq_W_mono n k (by omega)
    have h6 : pq_W n k (pq_mg (a i) + 1) = pq_W n k (pq_mg (a i)) + (if pq_mg (a i) = 0 then 1 else 2) * pq_V n (k - pq_mg (a i)) := rfl
    show pq_W n k (pq_mg (a i)) + (if a i < 0 then pq_V n (k - pq_mg (a i)) else 0) + pq_ix a (i + 1) n (k - pq_mg (a i)) < pq_V (n + 1) k
    by_cases c : a i < 0
    · have h7 := pq_mg_1 c
      rw [if_pos c]
      rw [if_neg (by omega)] at h6
      omega
    · rw [if_neg c]
      by_cases z : pq_mg (a i) = 0
      · rw [if_pos z] at h6; omega
      · rw [if_neg z] at h6; omega
/-! taking an index apart: n is the number of the cells behind -/
def pq_fm (n k r : Nat) : Nat := pq_lg (pq_W n k) r k
abbrev pq_ng (n k r : Nat) : Prop := 0 < pq_fm n k r ∧ pq_V n (k - pq_fm n k r) ≤ r - pq_W n k (pq_fm n k r)
def pq_uy (n k r : Nat) : Int32 := if pq_ng n k r then -nI (pq_fm n k r) else nI (pq_fm n k r)
def pq_ur (n k r : Nat) : Nat := if pq_ng n k r then r - pq_W n k (pq_fm n k r) - pq_V n (k - pq_fm n k r) else r - pq_W n k (pq_fm n k r)
theorem pq_fm_s {n k r : Nat} (hn : n < 8) (hk : k ≤ 16) (hr : r < pq_V (n + 1) k) : pq_W n k (pq_fm n k r) ≤ r ∧ r < pq_W n k (pq_fm n k r + 1) ∧ pq_fm n k r ≤ k :=
  pq_lg_s (pq_W n k) r (Nat.zero_le _) k (by rw [pq_full n hn k (by omega)]; exact hr)
theorem pq_uy_n {n k r : Nat} (h : pq_ng n k r) : pq_uy n k r = -nI (pq_fm n k r) := by unfold pq_uy; exact if_pos h
theorem pq_uy_p {n k r : Nat} (h : ¬ pq_ng n k r) : pq_uy n k r = nI (pq_fm n k r) := by unfold pq_uy; exact if_neg h
theorem pq_ur_n {n k r : Nat} (h : pq_ng n k r) : pq_ur n k r = r - pq_W n k (pq_fm n k r) - pq_V n (k - pq_fm n k r) := by unfold pq_ur; exact if_pos h
theorem pq_ur_p {n k r : Nat} (h : ¬ pq_ng n k r) : pq_ur n k r = r - pq_W n k (pq_fm n k r) := by unfold pq_ur; exact if_neg h
theorem pq_ur_lt {n k r : Nat} (hn : n < 8) (hk : k ≤ 16) (hr : r < pq_V (n + 1) k) : pq_ur n k r < pq_V n (k - pq_fm n k r) := by
  have ⟨a, b, _⟩ := pq_fm_s hn hk hr
  have h6 : pq_W n k (pq_fm n k r + 1) = pq_W n k (pq_fm n k r) + (if pq_fm n k r = 0 then 1 else 2) * pq_V n (k - pq_fm n k r) := rfl
  by_cases c : pq_ng n k r
  · rw [pq_ur_n c]
    have ⟨c1, c2⟩ := c
    rw [if_neg (by omega)] at h6
    omega
  · rw [pq_ur_p c]
    by_cases z : pq_fm n k r = 0
    · rw [if_pos z] at h6; omega
    · rw [if_neg z] at h6
      have c2 : ¬ pq_V n (k - pq_fm n k r) ≤ r - pq_W n k (pq_fm n k r) := fun y => c ⟨by omega, y⟩
      omega
theorem pq_uy_mg {n k r : Nat} (hn : n < 8) (hk : k ≤ 16) (hr : r < pq_V (n + 1) k) : pq_mg (pq_uy n k r) = pq_fm n k r := by
  have ⟨_, _, d⟩ := pq_fm_s hn hk hr
  by_cases c : pq_ng n k r
  · rw [pq_uy_n c, pq_mg_neg (by omega)]
  · rw [pq_uy_p c, pq_mg_nI (by omega)]
def pq_us (n k r : Nat) : Nat → Nat × Nat
  | 0 => (k, r)
  | i + 1 => ((pq_us n k r i).1 - pq_fm (n - i - 1) (pq_us n k r i).1 (pq_us n k r i).2, pq_ur (n - i - 1) (pq_us n k r i).1 (pq_us n k r i).2)
def pq_y (n k r i : Nat) : Int32 := pq_uy (n - i - 1) (pq_us n k r i).1 (pq_us n k r i).2
theorem pq_us_s {n k r : Nat} (hn : n ≤ 8) (hk : k ≤ 16) (hr : r < pq_V n k) : ∀ i, i ≤ n → (pq_us n k r i).1 ≤ 16 ∧ (pq_us n k r i).2 < pq_V (n - i) (pq_us n k r i).1 := by
  intro i
  induction i with
  | zero => intro _; exact ⟨hk, hr⟩
  | succ i ih =>
    intro hi
    have ⟨a, b⟩ := ih (by omega)
    have e : n - i = (n - i - 1) + 1 := by omega
    rw [e] at b
    refine ⟨Nat.le_trans (Nat.sub_le _ _) a, ?_⟩
    exact pq_ur_lt (n := n - i - 1) (by omega) a b
theorem pq_y_mg {n k r : Nat} (hn : n ≤ 8) (hk : k ≤ 16) (hr : r < pq_V n k) {i : Nat} (hi : i < n) : pq_mg (pq_y n k r i) ≤ 16 := by
  have ⟨a, b⟩ := pq_us_s hn hk hr i (by omega)
  have e : n - i = (n - i - 1) + 1 := by omega
  rw [e] at b
  unfold pq_y
  rw [pq_uy_mg (by omega) a b]
  have ⟨_, _, d⟩ := pq_fm_s (n := n - i - 1) (by omega) a b
  omega
/-! roots, lengths in bits, the symbols of the energies -/
def pq_rt : Nat → Nat
  | 0 => 0
  | M + 1 => if (pq_rt M + 1) * (pq_rt M + 1) ≤ M + 1 then pq_rt M + 1 else pq_rt M
theorem pq_rt_s : ∀ M, pq_rt M * pq_rt M ≤ M ∧ M < (pq_rt M + 1) * (pq_rt M + 1) := by
  intro M
  induction M with
  | zero => exact ⟨by decide, by decide⟩
  | succ M ih =>
    have ⟨a, b⟩ := ih
    unfold pq_rt
    by_cases c : (pq_rt M + 1) * (pq_rt M + 1) ≤ M + 1
    · rw [if_pos c]
      refine ⟨c, ?_⟩
      have e : (pq_rt M + 1) * (pq_rt M + 1) < (pq_rt M + 1 + 1) * (pq_rt M + 1 + 1) := Nat.mul_lt_mul'' (by omega) (by omega)
      omega
    · rw [if_neg c]
      exact ⟨by omega, by omega⟩
theorem pq_rt_u {M r : Nat} (h1 : r * r ≤ M) (h2 : M < (r + 1) * (r + 1)) : r = pq_rt M := by
  have ⟨a, b⟩ := pq_rt_s M
  by_cases c : r < pq_rt M
  · have := Nat.mul_le_mul (show r + 1 ≤ pq_rt M from c) (show r + 1 ≤ pq_rt M from c)
    omega
  · by_cases d : pq_rt M < r
    · have := Nat.mul_le_mul (show pq_rt M + 1 ≤ r from d) (show pq_rt M + 1 ≤ r from d)
      omega
    · omega
theorem pq_rt_le {M c : Nat} (h : M < (c + 1) * (c + 1)) : pq_rt M ≤ c := by
  have ⟨a, _⟩ := pq_rt_s M
  by_cases d : c + 1 ≤ pq_rt M
  · have := Nat.mul_le_mul d d
    omega
  · omega
def pq_bl (M : Nat) : Nat := if M = 0 then 0 else M.log2 + 1
theorem pq_bl_lt (M : Nat) : M < 2 ^ pq_bl M := by
  unfold pq_bl
  by_cases c : M = 0
  · rw [if_pos c, c]; decide
  · rw [if_neg c]; exact Nat.lt_log2_self
theorem pq_bl_le {M j : Nat} (h : j < pq_bl M) : 2 ^ j ≤ M := by
  unfold pq_bl at h
  by_cases c : M = 0
  · rw [if_pos c] at h; omega
  · rw [if_neg c] at h
    exact (Nat.le_log2 c).mp (by omega)
theorem pq_bl_b {M B : Nat} (h : M < 2 ^ B) : pq_bl M ≤ B := by
  by_cases c : B < pq_bl M
  · have := pq_bl_le c; omega
  · omega
def pq_f (s : Nat) : Nat := if s ≤ 8 then 32 / 2 ^ ((s + 1) / 2) else 1
def pq_st (s : Nat) : Nat := pq_S pq_f s
theorem pq_f_s : ∀ s, s < 67 → pq_st s + pq_f s ≤ 150 ∧ 1 ≤ pq_f s ∧ pq_f s ≤ 32 := by decide +kernel
theorem pq_st_67 : pq_st 67 = 150 := by decide +kernel
def pq_sy (v : Nat) : Nat := pq_lg pq_st v 66
theorem pq_sy_s {v : Nat} (h : v < 150) : pq_st (pq_sy v) ≤ v ∧ v < pq_st (pq_sy v + 1) ∧ pq_sy v ≤ 66 :=
  pq_lg_s pq_st v (Nat.zero_le _) 66 (by rw [pq_st_67]; exact h)
def pq_sm (q p : Nat) : Nat := if p ≤ q then 2 * (q - p) else 2 * (p - q) - 1
theorem pq_sm_le {q p : Nat} (hq : q ≤ 33) (hp : p ≤ 25) : pq_sm q p < 67 := by
  unfold pq_sm
  by_cases c : p ≤ q
  · rw [if_pos c]; omega
  · rw [if_neg c]; omega
end
section
/-! the range encoder: low, range, cache, pending, length, packet -/
abbrev pq_E : Type := Nat × Nat × Nat × Nat × Nat × (Nat → Int32)
def pq_em (x : Nat) (s : Nat × (Nat → Int32)) : Nat × (Nat → Int32) := if s.1 < 64 then (s.1 + 1, upd s.2 s.1 (nI x)) else s
def pq_en (x : Nat) : Nat → Nat × (Nat → Int32) → Nat × (Nat → Int32)
  | 0, s => s
  | i + 1, s => pq_en x i (pq_em x s)
def pq_B (pk : Nat → Int32) : Prop := ∀ i, i < 64 → ∃ b, b < 256 ∧ pk i = nI b
theorem pq_B_u {pk : Nat → Int32} (h : pq_B pk) {j b : Nat} (hb : b < 256) : pq_B (upd pk j (nI b)) := by
  intro i hi
  by_cases e : i = j
  · subst e; exact ⟨b, hb, pk_us⟩
  · obtain ⟨c, hc, e2⟩ := h i hi
    exact ⟨c, hc, by rw [pk_un e, e2]⟩
theorem pq_em_s {x : Nat} {s : Nat × (Nat → Int32)} (hx : x < 256) (h1 : s.1 ≤ 64) (h2 : pq_B s.2) : (pq_em x s).1 ≤ 64 ∧ pq_B (pq_em x s).2 := by
  unfold pq_em
  by_cases c : s.1 < 64
  · rw [if_pos c]; exact ⟨c, pq_B_u h2 hx⟩
  · rw [if_neg c]; exact ⟨h1, h2⟩
theorem pq_en_s {x : Nat} (hx : x < 256) : ∀ i (s : Nat × (Nat → Int32)), s.1 ≤ 64 → pq_B s.2 → (pq_en x i s).1 ≤ 64 ∧ pq_B (pq_en x i s).2 := by
  intro i
  induction i with
  | zero => intro s h1 h2; exact ⟨h1, h2⟩
  | succ i ih =>
    intro s h1 h2
    have ⟨a, b⟩ := pq_em_s hx h1 h2
    exact ih _ a b
def pq_sh (e : pq_E) : pq_E :=
  if e.1 < 4278190080 ∨ 4294967296 ≤ e.1 then
    (e.1 % 16777216 * 256, e.2.1, e.1 / 16777216 % 256, 1, pq_en ((255 + e.1 / 4294967296) % 256) (e.2.2.2.1 - 1) (pq_em ((e.2.2.1 + e.1 / 4294967296) % 256) (e.2.2.2.2.1, e.2.2.2.2.2)))
  else (e.1 % 16777216 * 256, e.2.1, e.2.2.1, e.2.2.2.1 + 1, e.2.2.2.2.1, e.2.2.2.2.2)
def pq_EW (B : Nat) (e : pq_E) : Prop := e.2.2.1 < 256 ∧ e.2.2.2.1 ≤ B ∧ e.2.2.2.2.1 ≤ 64 ∧ pq_B e.2.2.2.2.2
theorem pq_EW_le {B C : Nat} {e : pq_E} (h : pq_EW B e) (hb : B ≤ C) : pq_EW C e := ⟨h.1, Nat.le_trans h.2.1 hb, h.2.2⟩
theorem pq_sh_w {B : Nat} {e : pq_E} (h : pq_EW B e) : pq_EW (B + 1) (pq_sh e) := by
  obtain ⟨h1, h2, h3, h4⟩ := h
  unfold pq_sh
  by_cases c : e.1 < 4278190080 ∨ 4294967296 ≤ e.1
  · rw [if_pos c]
    have ⟨a, b⟩ := pq_em_s (x := (e.2.2.1 + e.1 / 4294967296) % 256) (s := (e.2.2.2.2.1, e.2.2.2.2.2)) (Nat.mod_lt _ (by decide)) h3 h4
    have ⟨a2, b2⟩ := pq_en_s (x := (255 + e.1 / 4294967296) % 256) (Nat.mod_lt _ (by decide)) (e.2.2.2.1 - 1) _ a b
    exact ⟨Nat.mod_lt _ (by decide), Nat.succ_le_succ (Nat.zero_le _), a2, b2⟩
  · rw [if_neg c]
    exact ⟨h1, Nat.succ_le_succ h2, h3, h4⟩
theorem pq_sh_1 (e : pq_E) : (pq_sh e).1 < 4294967296 := by
  have h : e.1 % 16777216 < 16777216 := Nat.mod_lt _ (by decide)
  unfold pq_sh
  by_cases c : e.1 < 4278190080 ∨ 4294967296 ≤ e.1
  · rw [if_pos c]; show e.1 % 16777216 * 256 < _; omega
  · rw [if_neg c]; show e.1 % 16777216 * 256 < _; omega
theorem pq_sh_2 (e : pq_E) : (pq_sh e).2.1 = e.2.1 := by
  unfold pq_sh
  by_cases c : e.1 < 4278190080 ∨ 4294967296 ≤ e.1
  · rw [if_pos c]
  · rw [if_neg c]
def pq_s1 (e : pq_E) : pq_E := pq_sh (e.1, e.2.1 * 256, e.2.2)
theorem pq_s1_2 (e : pq_E) : (pq_s1 e).2.1 = e.2.1 * 256 := pq_sh_2 _
theorem pq_s1_1 (e : pq_E) : (pq_s1 e).1 < 4294967296 := pq_sh_1 _
theorem pq_s1_w {B : Nat} {e : pq_E} (h : pq_EW B e) : pq_EW (B + 1) (pq_s1 e) := pq_sh_w (e := (e.1, e.2.1 * 256, e.2.2)) h
def pq_rn (e : pq_E) : pq_E := if e.2.1 < 16777216 then (if (pq_s1 e).2.1 < 16777216 then pq_s1 (pq_s1 e) else pq_s1 e) else e
def pq_EI (B : Nat) (e : pq_E) : Prop := pq_EW B e ∧ e.1 + e.2.1 ≤ 8589934592 ∧ 16777216 ≤ e.2.1 ∧ e.2.1 < 4294967296
theorem pq_EI_le {B C : Nat} {e : pq_E} (h : pq_EI B e) (hb : B ≤ C) : pq_EI C e := ⟨pq_EW_le h.1 hb, h.2⟩
theorem pq_rn_s {B : Nat} {e : pq_E} (h : pq_EW B e) (h1 : e.1 + e.2.1 ≤ 8589934592) (h2 : 256 ≤ e.2.1) (h3 : e.2.1 < 4294967296) : pq_EI (B + 2) (pq_rn e) := by
  unfold pq_rn
  have a1 := pq_s1_1 e
  have a2 := pq_s1_2 e
  have b1 := pq_s1_1 (pq_s1 e)
  have b2 := pq_s1_2 (pq_s1 e)
  have w1 := pq_s1_w h
  have w2 := pq_s1_w w1
  by_cases c : e.2.1 < 16777216
  · rw [if_pos c]
    by_cases d : (pq_s1 e).2.1 < 16777216
    · rw [if_pos d]; exact ⟨w2, by omega, by omega, by omega⟩
    · rw [if_neg d]; exact ⟨pq_EW_le w1 (by omega), by omega, by omega, by omega⟩
  · rw [if_neg c]; exact ⟨pq_EW_le h (by omega), h1, by omega, h3⟩
def pq_c0 (e : pq_E) (start size total : Nat) : pq_E := (e.1 + e.2.1 / total * start, e.2.1 / total * size, e.2.2)
def pq_cd (e : pq_E) (start size total : Nat) : pq_E := pq_rn (pq_c0 e start size total)
theorem pq_r {rng total : Nat} (h : 16777216 ≤ rng) (h0 : 1 ≤ total) (h1 : total ≤ 65536) : 256 ≤ rng / total ∧ rng / total * total ≤ rng := by
  refine ⟨?_, Nat.div_mul_le_self _ _⟩
  rw [Nat.le_div_iff_mul_le (by omega)]
  omega
theorem pq_c0_s {B : Nat} {e : pq_E} {start size total : Nat} (h : pq_EI B e) (h0 : 1 ≤ total) (h1 : total ≤ 65536) (h2 : 1 ≤ size) (h3 : start + size ≤ total) :
    (pq_c0 e start size total).1 + (pq_c0 e start size total).2.1 ≤ 8589934592 ∧ 256 ≤ (pq_c0 e start size total).2.1 ∧ (pq_c0 e start size total).2.1 < 4294967296 := by
  obtain ⟨w, l, r0, r1⟩ := h
  have ⟨a, b⟩ := pq_r r0 h0 h1
  show e.1 + e.2.1 / total * start + e.2.1 / total * size ≤ 8589934592 ∧ 256 ≤ e.2.1 / total * size ∧ e.2.1 / total * size < 4294967296
  generalize hr : e.2.1 / total = r at *
  have m1 : r * (start + size) ≤ r * total := Nat.mul_le_mul_left r h3
  have m2 : r * 1 ≤ r * size := Nat.mul_le_mul_left r h2
  rw [Nat.mul_add] at m1
  omega
theorem pq_cd_s {B : Nat} {e : pq_E} {start size total : Nat} (h : pq_EI B e) (h0 : 1 ≤ total) (h1 : total ≤ 65536) (h2 : 1 ≤ size) (h3 : start + size ≤ total) : pq_EI (B + 2) (pq_cd e start size total) := by
  have ⟨a, b, c⟩ := pq_c0_s h h0 h1 h2 h3
  exact pq_rn_s (e := pq_c0 e start size total) h.1 a b c
def pq_ap (k : Nat) : Nat := if pq_V 8 k ≤ 65536 then 0 else pq_bl (pq_V 8 k - 1) - 16
theorem pq_ap_s : ∀ k, k < 17 → 65536 < pq_V 8 k → 1 ≤ pq_ap k ∧ pq_ap k ≤ 8 ∧ (pq_V 8 k - 1) / 2 ^ pq_ap k + 1 ≤ 65536 ∧ pq_bl (pq_V 8 k - 1) = pq_ap k + 16 := by decide +kernel
theorem pq_ap_p : ∀ a, a ≤ 8 → 1 ≤ 2 ^ a ∧ 2 ^ a ≤ 256 := by
  intro a h
  exact ⟨Nat.one_le_two_pow, Nat.pow_le_pow_right (n := 2) (i := a) (j := 8) (by decide) h⟩
def pq_cp (e : pq_E) (k idx : Nat) : pq_E :=
  if pq_V 8 k ≤ 65536 then pq_cd e idx 1 (pq_V 8 k)
  else pq_cd (pq_cd e (idx / 2 ^ pq_ap k) 1 ((pq_V 8 k - 1) / 2 ^ pq_ap k + 1)) (idx % 2 ^ pq_ap k) 1 (2 ^ pq_ap k)
theorem pq_cp_s {B : Nat} {e : pq_E} {k idx : Nat} (h : pq_EI B e) (hk : k ≤ 16) (hi : idx < pq_V 8 k) : pq_EI (B + 4) (pq_cp e k idx) := by
  unfold pq_cp
  by_cases c : pq_V 8 k ≤ 65536
  · rw [if_pos c]
    exact pq_EI_le (pq_cd_s h (by omega) c (by omega) (by omega)) (by omega)
  · rw [if_neg c]
    have ⟨a1, a2, a3, _⟩ := pq_ap_s k (by omega) (by omega)
    have ⟨p1, p2⟩ := pq_ap_p _ a2
    have m : idx / 2 ^ pq_ap k ≤ (pq_V 8 k - 1) / 2 ^ pq_ap k := Nat.div_le_div_right (by omega)
    have r : idx % 2 ^ pq_ap k < 2 ^ pq_ap k := Nat.mod_lt _ p1
    exact pq_cd_s (pq_cd_s h (Nat.succ_pos _) a3 (Nat.le_refl _) (Nat.succ_le_succ m)) p1 (Nat.le_trans p2 (by decide)) (Nat.le_refl _) r
/-! the range decoder: position, range, code -/
def pq_by (pk : Nat → Int32) (le p : Nat) : Nat := if p < le then (pk p).toNatClampNeg else 0
theorem pq_by_e {pk : Nat → Int32} {le p : Nat} (h : pq_B pk) (hl : le ≤ 64) (hp : p < le) : pk p = nI (pq_by pk le p) ∧ pq_by pk le p < 256 := by
  obtain ⟨b, hb, e⟩ := h p (by omega)
  unfold pq_by
  rw [if_pos hp, e, nI_clamp (by omega)]
  exact ⟨rfl, hb⟩
theorem pq_by_z {pk : Nat → Int32} {le p : Nat} (hp : ¬ p < le) : pq_by pk le p = 0 := if_neg hp
theorem pq_by_lt {pk : Nat → Int32} {le : Nat} (h : pq_B pk) (hl : le ≤ 64) (p : Nat) : pq_by pk le p < 256 := by
  by_cases c : p < le
  · exact (pq_by_e h hl c).2
  · rw [pq_by_z c]; decide
abbrev pq_D : Type := Nat × Nat × Nat
def pq_tk (pk : Nat → Int32) (le : Nat) (d : pq_D) : pq_D := (d.1 + 1, d.2.1, (d.2.2 * 256 + pq_by pk le d.1) % 4294967296)
def pq_t1 (pk : Nat → Int32) (le : Nat) (d : pq_D) : pq_D := pq_tk pk le (d.1, d.2.1 * 256, d.2.2)
def pq_dn (pk : Nat → Int32) (le : Nat) (d : pq_D) : pq_D := if d.2.1 < 16777216 then (if (pq_t1 pk le d).2.1 < 16777216 then pq_t1 pk le (pq_t1 pk le d) else pq_t1 pk le d) else d
def pq_DI (B : Nat) (d : pq_D) : Prop := d.1 ≤ B ∧ 16777216 ≤ d.2.1 ∧ d.2.1 < 4294967296 ∧ d.2.2 < 4294967296
theorem pq_DI_le {B C : Nat} {d : pq_D} (h : pq_DI B d) (hb : B ≤ C) : pq_DI C d := ⟨Nat.le_trans h.1 hb, h.2⟩
theorem pq_t1_s (pk : Nat → Int32) (le : Nat) (d : pq_D) : (pq_t1 pk le d).1 = d.1 + 1 ∧ (pq_t1 pk le d).2.1 = d.2.1 * 256 ∧ (pq_t1 pk le d).2.2 < 4294967296 := ⟨rfl, rfl, Nat.mod_lt _ (by decide)⟩
theorem pq_dn_s (pk : Nat → Int32) (le : Nat) {B : Nat} {d : pq_D} (h1 : d.1 ≤ B) (h2 : 256 ≤ d.2.1) (h3 : d.2.1 < 4294967296) (h4 : d.2.2 < 4294967296) : pq_DI (B + 2) (pq_dn pk le d) := by
  unfold pq_dn
  have ⟨a1, a2, a3⟩ := pq_t1_s pk le d
  have ⟨b1, b2, b3⟩ := pq_t1_s pk le (pq_t1 pk le d)
  by_cases c : d.2.1 < 16777216
  · rw [if_pos c]
    by_cases c2 : (pq_t1 pk le d).2.1 < 16777216
    · rw [if_pos c2]; exact ⟨by omega, by omega, by omega, b3⟩
    · rw [if_neg c2]; exact ⟨by omega, by omega, by omega, a3⟩
  · rw [if_neg c]; exact ⟨by omega, by omega, h3, h4⟩
def pq_dv (d : pq_D) (total : Nat) : Nat := if total - 1 < d.2.2 / (d.2.1 / total) then total - 1 else d.2.2 / (d.2.1 / total)
def pq_d0 (d : pq_D) (total start size : Nat) : pq_D := (d.1, d.2.1 / total * size, d.2.2 - d.2.1 / total * start)
def pq_dc (pk : Nat → Int32) (le : Nat) (d : pq_D) (total start size : Nat) : pq_D := pq_dn pk le (pq_d0 d total start size)
theorem pq_dv_lt {d : pq_D} {total : Nat} (h : 1 ≤ total) : pq_dv d total < total := by
  unfold pq_dv
  by_cases c : total - 1 < d.2.2 / (d.2.1 / total)
  · rw [if_pos c]; omega
  · rw [if_neg c]; omega
theorem pq_dv_m {d : pq_D} {total start : Nat} (h : start ≤ pq_dv d total) : d.2.1 / total * start ≤ d.2.2 := by
  have h2 : start ≤ d.2.2 / (d.2.1 / total) := by
    unfold pq_dv at h
    by_cases c : total - 1 < d.2.2 / (d.2.1 / total)
    · rw [if_pos c] at h; omega
    · rw [if_neg c] at h; exact h
  exact Nat.le_trans (Nat.mul_le_mul_left _ h2) (Nat.mul_div_le _ _)
theorem pq_d0_s {B : Nat} {d : pq_D} {total start size : Nat} (h : pq_DI B d) (h0 : 1 ≤ total) (h1 : total ≤ 65536) (h2 : 1 ≤ size) (h3 : size ≤ total) :
    (pq_d0 d total start size).1 ≤ B ∧ 256 ≤ (pq_d0 d total start size).2.1 ∧ (pq_d0 d total start size).2.1 < 4294967296 ∧ (pq_d0 d total start size).2.2 < 4294967296 := by
  obtain ⟨p, r0, r1, cd⟩ := h
  have ⟨a, b⟩ := pq_r r0 h0 h1
  refine ⟨p, ?_, ?_, Nat.lt_of_le_of_lt (Nat.sub_le _ _) cd⟩
  · show 256 ≤ d.2.1 / total * size
    have m2 : d.2.1 / total * 1 ≤ d.2.1 / total * size := Nat.mul_le_mul_left _ h2
    omega
  · show d.2.1 / total * size < _
    have m1 : d.2.1 / total * size ≤ d.2.1 / total * total := Nat.mul_le_mul_left _ h3
    omega
theorem pq_dc_s (pk : Nat → Int32) (le : Nat) {B : Nat} {d : pq_D} {total start size : Nat} (h : pq_DI B d) (h0 : 1 ≤ total) (h1 : total ≤ 65536) (h2 : 1 ≤ size) (h3 : size ≤ total) : pq_DI (B + 2) (pq_dc pk le d total start size) := by
  have ⟨a, b, c, e⟩ := pq_d0_s (start := start) h h0 h1 h2 h3
  exact pq_dn_s pk le (d := pq_d0 d total start size) a b c e
/-- a pair: the index of the pulses, and the decoder behind it -/
def pq_dp (pk : Nat → Int32) (le : Nat) (d : pq_D) (k : Nat) : Nat × pq_D :=
  if pq_V 8 k ≤ 65536 then (pq_dv d (pq_V 8 k), pq_dc pk le d (pq_V 8 k) (pq_dv d (pq_V 8 k)) 1)
  else
    (if pq_V 8 k - 1 < pq_dv d ((pq_V 8 k - 1) / 2 ^ pq_ap k + 1) * 2 ^ pq_ap k + pq_dv (pq_dc pk le d ((pq_V 8 k - 1) / 2 ^ pq_ap k + 1) (pq_dv d ((pq_V 8 k - 1) / 2 ^ pq_ap k + 1)) 1) (2 ^ pq_ap k) then pq_V 8 k - 1
      else pq_dv d ((pq_V 8 k - 1) / 2 ^ pq_ap k + 1) * 2 ^ pq_ap k + pq_dv (pq_dc pk le d ((pq_V 8 k - 1) / 2 ^ pq_ap k + 1) (pq_dv d ((pq_V 8 k - 1) / 2 ^ pq_ap k + 1)) 1) (2 ^ pq_ap k),
     pq_dc pk le (pq_dc pk le d ((pq_V 8 k - 1) / 2 ^ pq_ap k + 1) (pq_dv d ((pq_V 8 k - 1) / 2 ^ pq_ap k + 1)) 1) (2 ^ pq_ap k) (pq_dv (pq_dc pk le d ((pq_V 8 k - 1) / 2 ^ pq_ap k + 1) (pq_dv d ((pq_V 8 k - 1) / 2 ^ pq_ap k + 1)) 1) (2 ^ pq_ap k)) 1)
theorem pq_min {V X : Nat} (h : 1 ≤ V) : (if V - 1 < X then V - 1 else X) < V := by
  split <;> omega
theorem pq_dp_s (pk : Nat → Int32) (le : Nat) {B : Nat} {d : pq_D} {k : Nat} (h : pq_DI B d) (hk : k ≤ 16) : (pq_dp pk le d k).1 < pq_V 8 k ∧ pq_DI (B + 4) (pq_dp pk le d k).2 := by
  have hv := pq_Vpos k (by omega)
  unfold pq_dp
  by_cases c : pq_V 8 k ≤ 65536
  · rw [if_pos c]
    exact ⟨pq_dv_lt hv, pq_DI_le (pq_dc_s pk le h hv c (by omega) hv) (by omega)⟩
  · rw [if_neg c]
    have ⟨a1, a2, a3, _⟩ := pq_ap_s k (by omega) (by omega)
    have ⟨p1, p2⟩ := pq_ap_p _ a2
    refine ⟨?_, ?_⟩
    · exact pq_min hv
    · exact pq_dc_s pk le (pq_dc_s pk le h (Nat.succ_pos _) a3 (Nat.le_refl _) (Nat.succ_pos _)) p1 (Nat.le_trans p2 (by decide)) (Nat.le_refl _) p1
end
section
/-! the search of the pulses -/
def pq_bs (a : Nat → Int64) (w : Nat → Nat) (cc ss : Int64) : Nat → Nat × Int64 × Int64
  | 0 => (0, 0, 1)
  | j + 1 => if j = 0 ∨ (pq_bs a w cc ss j).2.1 * (ss + (2 * nI (w j)).toInt64 + 1) < (cc + a j) * (cc + a j) * (pq_bs a w cc ss j).2.2 then (j, (cc + a j) * (cc + a j), ss + (2 * nI (w j)).toInt64 + 1) else pq_bs a w cc ss j
theorem pq_bs_lt (a : Nat → Int64) (w : Nat → Nat) (cc ss : Int64) : ∀ j, j ≤ 8 → (pq_bs a w cc ss j).1 < 8 := by
  intro j
  induction j with
  | zero => intro _; exact (by decide : 0 < 8)
  | succ j ih =>
    intro h
    unfold pq_bs
    split
    · show j < 8; omega
    · exact ih (by omega)
def pq_up (w : Nat → Nat) (c : Nat) : Nat → Nat := fun j => if j = c then w j + 1 else w j
theorem pq_up_o {w : Nat → Nat} {c : Nat} : ∀ n, n ≤ c → pq_S (pq_up w c) n = pq_S w n := by
  intro n h
  apply pq_S_ext
  intro j hj
  exact if_neg (by omega)
theorem pq_up_s {w : Nat → Nat} {c : Nat} : ∀ n, c < n → pq_S (pq_up w c) n = pq_S w n + 1 := by
  intro n
  induction n with
  | zero => intro h; omega
  | succ n ih =>
    intro h
    show pq_S (pq_up w c) n + pq_up w c n = pq_S w n + w n + 1
    by_cases e : n = c
    · rw [pq_up_o n (by omega)]
      have : pq_up w c n = w n + 1 := if_pos e
      omega
    · rw [ih (by omega)]
      have : pq_up w c n = w n := if_neg e
      omega
def pq_sr (a : Nat → Int64) : Nat → (Nat → Nat) × Int64 × Int64
  | 0 => (fun _ => 0, 0, 0)
  | i + 1 => (pq_up (pq_sr a i).1 (pq_bs a (pq_sr a i).1 (pq_sr a i).2.1 (pq_sr a i).2.2 8).1, (pq_sr a i).2.1 + a (pq_bs a (pq_sr a i).1 (pq_sr a i).2.1 (pq_sr a i).2.2 8).1, (pq_sr a i).2.2 + (2 * nI ((pq_sr a i).1 (pq_bs a (pq_sr a i).1 (pq_sr a i).2.1 (pq_sr a i).2.2 8).1) + 1).toInt64)
theorem pq_sr_sum (a : Nat → Int64) : ∀ i, pq_S (pq_sr a i).1 8 = i := by
  intro i
  induction i with
  | zero => rfl
  | succ i ih =>
    show pq_S (pq_up (pq_sr a i).1 _) 8 = i + 1
    rw [pq_up_s 8 (pq_bs_lt _ _ _ _ 8 (by omega)), ih]
theorem pq_sr_le (a : Nat → Int64) (i : Nat) {j : Nat} (hj : j < 8) : (pq_sr a i).1 j ≤ i := by
  have h := pq_S_ge (pq_sr a i).1 hj
  rw [pq_sr_sum] at h
  exact h
def pq_ab (co : Nat → Int32) (b j : Nat) : Int64 := lN (pq_mg (co (8 * b + j)))
def pq_w (co : Nat → Int32) (b k : Nat) : Nat → Nat := (pq_sr (pq_ab co b) k).1
def pq_yv (co : Nat → Int32) (b k j : Nat) : Int32 := if co (8 * b + j) < 0 then -nI (pq_w co b k j) else nI (pq_w co b k j)
theorem pq_yv_mg (co : Nat → Int32) (b : Nat) {k j : Nat} (hk : k ≤ 16) (hj : j < 8) : pq_mg (pq_yv co b k j) = pq_w co b k j := by
  have h : pq_w co b k j ≤ k := pq_sr_le _ _ hj
  unfold pq_yv
  split
  · exact pq_mg_neg (by omega)
  · exact pq_mg_nI (by omega)
theorem pq_M_8 (a : Nat → Int32) : pq_M a 0 8 = pq_S (fun j => pq_mg (a j)) 8 := by
  simp only [pq_M, pq_S, Nat.zero_add, Nat.reduceAdd]
  omega
theorem pq_yv_M (co : Nat → Int32) (b : Nat) {k : Nat} (hk : k ≤ 16) : pq_M (pq_yv co b k) 0 8 = k := by
  rw [pq_M_8, pq_S_ext (g := pq_w co b k) 8 (fun j hj => pq_yv_mg co b hk hj)]
  exact pq_sr_sum _ k
/-! the state's ranges -/
def pq_HK (pc : Nat → Int32) : Prop := ∀ b, b < 4 → ∃ k, 1 ≤ k ∧ k ≤ 16 ∧ pc b = nI k
def pq_HC (co : Nat → Int32) : Prop := ∀ j, j < 32 → pq_mg (co j) ≤ 32767
def pq_HQ (q : Nat → Int32) : Prop := ∀ b, b < 4 → ∃ x, x ≤ 33 ∧ q b = nI x
def pq_k (pc : Nat → Int32) (b : Nat) : Nat := (pc b).toNatClampNeg
theorem pq_k_s {pc : Nat → Int32} (h : pq_HK pc) {b : Nat} (hb : b < 4) : 1 ≤ pq_k pc b ∧ pq_k pc b ≤ 16 ∧ pc b = nI (pq_k pc b) := by
  obtain ⟨k, h1, h2, e⟩ := h b hb
  unfold pq_k
  rw [e, nI_clamp (by omega)]
  exact ⟨h1, h2, rfl⟩
theorem pq_q_s {q : Nat → Int32} (h : pq_HQ q) {b : Nat} (hb : b < 4) : pq_k q b ≤ 33 ∧ q b = nI (pq_k q b) := by
  obtain ⟨k, h2, e⟩ := h b hb
  unfold pq_k
  rw [e, nI_clamp (by omega)]
  exact ⟨h2, rfl⟩
def pq_e (co : Nat → Int32) (b : Nat) : Nat := pq_S (fun j => pq_mg (co (8 * b + j)) * pq_mg (co (8 * b + j))) 8
theorem pq_e_lt {co : Nat → Int32} (h : pq_HC co) {b : Nat} (hb : b < 4) : pq_e co b < 8589934592 := by
  have h1 : pq_e co b ≤ 8 * (32767 * 32767) := by
    apply pq_S_le
    intro j hj
    have h2 := h (8 * b + j) (by omega)
    exact Nat.mul_le_mul h2 h2
  omega
def pq_q (co : Nat → Int32) (b : Nat) : Nat := pq_bl (pq_e co b)
theorem pq_q_le {co : Nat → Int32} (h : pq_HC co) {b : Nat} (hb : b < 4) : pq_q co b ≤ 33 := pq_bl_b (pq_e_lt h hb)
def pq_id (co pc : Nat → Int32) (b : Nat) : Nat := pq_ix (pq_yv co b (pq_k pc b)) 0 8 (pq_k pc b)
theorem pq_id_lt (co : Nat → Int32) {pc : Nat → Int32} (h : pq_HK pc) {b : Nat} (hb : b < 4) : pq_id co pc b < pq_V 8 (pq_k pc b) := by
  have ⟨_, k2, _⟩ := pq_k_s h hb
  exact pq_ix_lt _ 8 0 _ (by omega) k2 (pq_yv_M co b k2)
/-! a frame -/
def pq_sb (co eq : Nat → Int32) (b : Nat) : Nat := pq_sm (pq_q co b) ((3 * pq_k eq b + 2) / 4)
theorem pq_sb_le {co eq : Nat → Int32} (hc : pq_HC co) (hq : pq_HQ eq) {b : Nat} (hb : b < 4) : pq_sb co eq b < 67 := by
  have h1 := pq_q_le hc hb
  have ⟨h2, _⟩ := pq_q_s hq hb
  exact pq_sm_le h1 (by omega)
def pq_ee (co eq : Nat → Int32) (b : Nat) (e : pq_E) : pq_E := pq_cd e (pq_st (pq_sb co eq b)) (pq_f (pq_sb co eq b)) 150
def pq_eb (pk co pc eq : Nat → Int32) : Nat → pq_E
  | 0 => (0, 4294967295, 0, 1, 0, pk)
  | b + 1 => pq_cp (pq_ee co eq b (pq_eb pk co pc eq b)) (pq_k pc b) (pq_id co pc b)
theorem pq_ee_s {co eq : Nat → Int32} (hc : pq_HC co) (hq : pq_HQ eq) {b : Nat} (hb : b < 4) {B : Nat} {e : pq_E} (h : pq_EI B e) : pq_EI (B + 2) (pq_ee co eq b e) := by
  have h1 := pq_sb_le hc hq hb
  have ⟨a1, a2, _⟩ := pq_f_s _ h1
  exact pq_cd_s h (by omega) (by omega) a2 a1
theorem pq_eb_s {pk co pc eq : Nat → Int32} (hp : pq_B pk) (hc : pq_HC co) (hk : pq_HK pc) (hq : pq_HQ eq) : ∀ b, b ≤ 4 → pq_EI (1 + 6 * b) (pq_eb pk co pc eq b) := by
  intro b
  induction b with
  | zero => intro _; exact ⟨⟨(by decide : 0 < 256), (by decide : 1 ≤ 1 + 6 * 0), (by decide : 0 ≤ 64), hp⟩, (by decide : 0 + 4294967295 ≤ 8589934592), (by decide : 16777216 ≤ 4294967295), (by decide : 4294967295 < 4294967296)⟩
  | succ b ih =>
    intro hb
    have h1 := pq_ee_s hc hq (b := b) (by omega) (ih (by omega))
    have ⟨_, k2, _⟩ := pq_k_s hk (b := b) (by omega)
    exact pq_EI_le (pq_cp_s h1 k2 (pq_id_lt co hk (by omega))) (by omega)
def pq_clr (pk : Nat → Int32) : Nat → (Nat → Int32)
  | 0 => pk
  | i + 1 => upd (pq_clr pk i) i 0
theorem pq_clr_B {pk : Nat → Int32} (h : pq_B pk) : ∀ i, pq_B (pq_clr pk i) := by
  intro i
  induction i with
  | zero => exact h
  | succ i ih => exact pq_B_u ih (b := 0) (by decide)
def pq_fl : Nat → pq_E → pq_E
  | 0, e => e
  | i + 1, e => pq_fl i (pq_sh e)
theorem pq_fl_w : ∀ i (e : pq_E) (B : Nat), pq_EW B e → pq_EW (B + i) (pq_fl i e) := by
  intro i
  induction i with
  | zero => intro e B h; exact h
  | succ i ih =>
    intro e B h
    have := ih (pq_sh e) (B + 1) (pq_sh_w h)
    exact pq_EW_le this (by omega)
/-! a frame back -/
def pq_ds (d : pq_D) : Nat := pq_sy (pq_dv d 150)
def pq_de (pk : Nat → Int32) (le : Nat) (d : pq_D) : pq_D := pq_dc pk le d 150 (pq_st (pq_ds d)) (pq_f (pq_ds d))
def pq_d5 (pk : Nat → Int32) (le : Nat) : Nat → pq_D
  | 0 => (0, 4294967295, 0)
  | i + 1 => pq_tk pk le (pq_d5 pk le i)
def pq_db (pk : Nat → Int32) (le : Nat) (pc : Nat → Int32) : Nat → pq_D
  | 0 => pq_d5 pk le 5
  | b + 1 => (pq_dp pk le (pq_de pk le (pq_db pk le pc b)) (pq_k pc b)).2
def pq_xi (pk : Nat → Int32) (le : Nat) (pc : Nat → Int32) (b : Nat) : Nat := (pq_dp pk le (pq_de pk le (pq_db pk le pc b)) (pq_k pc b)).1
theorem pq_ds_s (d : pq_D) : pq_st (pq_ds d) ≤ pq_dv d 150 ∧ pq_dv d 150 < pq_st (pq_ds d + 1) ∧ pq_ds d ≤ 66 := pq_sy_s (pq_dv_lt (by decide))
theorem pq_de_s (pk : Nat → Int32) (le : Nat) {B : Nat} {d : pq_D} (h : pq_DI B d) : pq_DI (B + 2) (pq_de pk le d) := by
  have ⟨_, _, h1⟩ := pq_ds_s d
  have ⟨a1, a2, _⟩ := pq_f_s _ (show pq_ds d < 67 by omega)
  exact pq_dc_s pk le h (by omega) (by omega) a2 (by omega)
theorem pq_d5_s (pk : Nat → Int32) (le : Nat) : ∀ i, (pq_d5 pk le i).1 = i ∧ (pq_d5 pk le i).2.1 = 4294967295 ∧ (pq_d5 pk le i).2.2 < 4294967296 := by
  intro i
  induction i with
  | zero => exact ⟨rfl, rfl, (by decide : 0 < 4294967296)⟩
  | succ i ih => exact ⟨congrArg (· + 1) ih.1, ih.2.1, Nat.mod_lt _ (by decide)⟩
theorem pq_db_s (pk : Nat → Int32) (le : Nat) {pc : Nat → Int32} (hk : pq_HK pc) : ∀ b, b ≤ 4 → pq_DI (5 + 6 * b) (pq_db pk le pc b) := by
  intro b
  induction b with
  | zero =>
    intro _
    have ⟨a, c, d⟩ := pq_d5_s pk le 5
    show pq_DI _ (pq_d5 pk le 5)
    exact ⟨by omega, by omega, by omega, d⟩
  | succ b ih =>
    intro hb
    have ⟨_, k2, _⟩ := pq_k_s hk (b := b) (by omega)
    exact pq_DI_le (pq_dp_s pk le (pq_de_s pk le (ih (by omega))) k2).2 (by omega)
theorem pq_xi_lt (pk : Nat → Int32) (le : Nat) {pc : Nat → Int32} (hk : pq_HK pc) {b : Nat} (hb : b < 4) : pq_xi pk le pc b < pq_V 8 (pq_k pc b) := by
  have ⟨_, k2, _⟩ := pq_k_s hk hb
  exact (pq_dp_s pk le (pq_de_s pk le (pq_db_s pk le hk b (by omega))) k2).1
def pq_cl (x lo hi : Int32) : Int32 := if x < lo then lo else if hi < x then hi else x
theorem pq_cl_s (x : Int32) : ∃ q, q ≤ 33 ∧ pq_cl x 0 33 = nI q := by
  unfold pq_cl
  by_cases a : x < 0
  · rw [if_pos a]; exact ⟨0, by decide, rfl⟩
  · rw [if_neg a]
    by_cases b : 33 < x
    · rw [if_pos b]; exact ⟨33, by decide, rfl⟩
    · rw [if_neg b]
      obtain ⟨j, hj, e⟩ := nI_of2 (M := 33) (n := 33) (by decide) a (Int32.not_lt.mp b)
      exact ⟨j, hj, e⟩
theorem pq_cl_1 (x : Int32) : ∃ k, 1 ≤ k ∧ k ≤ 16 ∧ pq_cl x 1 16 = nI k := by
  unfold pq_cl
  by_cases a : x < 1
  · rw [if_pos a]; exact ⟨1, by decide, by decide, rfl⟩
  · rw [if_neg a]
    by_cases b : 16 < x
    · rw [if_pos b]; exact ⟨16, by decide, by decide, rfl⟩
    · rw [if_neg b]
      have a0 : ¬ x < 0 := fun z => a (Int32.lt_trans z (by decide))
      obtain ⟨j, hj, e⟩ := nI_of2 (M := 16) (n := 16) (by decide) a0 (Int32.not_lt.mp b)
      refine ⟨j, ?_, hj, e⟩
      by_cases z : j = 0
      · subst z; subst e; exact absurd (by decide) a
      · omega
theorem pq_cl_m (x : Int32) {c : Nat} {C : Int32} (hc : c < 2 ^ 31) (hC : C = nI c) : pq_mg (pq_cl x (-C) C) ≤ c := by
  subst hC
  have e : (-nI c).toInt = -(c : Int) := sb_negT hc
  have e2 : (nI c).toInt = (c : Int) := nI_toInt hc
  unfold pq_cl
  by_cases a : x < -nI c
  · rw [if_pos a, pq_mg_neg hc]; exact Nat.le_refl _
  · rw [if_neg a]
    by_cases b : nI c < x
    · rw [if_pos b, pq_mg_nI hc]; exact Nat.le_refl _
    · rw [if_neg b]
      rw [Int32.lt_iff_toInt_lt] at a b
      unfold pq_mg
      omega
def pq_z (n k r : Nat) : Nat := pq_S (fun j => pq_mg (pq_y n k r j) * pq_mg (pq_y n k r j)) 8
def pq_sc (y : Int32) (q sq : Nat) : Int32 :=
  if q = 0 ∨ y = 0 then 0 else if y < 0 then -nI (pq_rt (2 ^ (q - 1) * (pq_mg y * pq_mg y) / sq)) else nI (pq_rt (2 ^ (q - 1) * (pq_mg y * pq_mg y) / sq))
end
section
/-! numbers as they are printed -/
theorem pq_sh64 : ∀ b, b < 64 → (((nI b).toInt64 &&& 63).toBitVec.smod 64).toNat = b := by decide +kernel
theorem pq_p2 : ∀ b, b ≤ 8 → (1 : Int32) <<< (nI b &&& 31) = nI (2 ^ b) := by decide +kernel
theorem pq_p2m : ∀ b, b ≤ 8 → (nI (2 ^ b) - 1).toBitVec.toNat = 2 ^ b - 1 := by decide +kernel
theorem pq_f32 : ∀ s, s ≤ 8 → (32 : Int32) >>> (((nI s + 1) / 2) &&& 31) = nI (pq_f s) := by decide +kernel
theorem pq_lz {a : Nat} (ha : a < 2 ^ 63) : lN a ≤ 0 ↔ a = 0 := by
  have := pk_lLE ha (b := 0) (by decide)
  rw [show (0 : Int64) = lN 0 from rfl, this]
  omega
theorem pq_l1 {a : Nat} (h1 : 1 ≤ a) (ha : a < 2 ^ 63) : (1 : Int64) ≤ lN a := (pk_lLE (a := 1) (by decide) ha).mpr h1
theorem pq_ln0 {a : Nat} (h1 : 1 ≤ a) (ha : a < 2 ^ 63) : ¬ lN a = 0 := fun z => by
  have := (pk_lEQ ha (b := 0) (by decide)).mp z
  omega
theorem pq_i17 (n k : Nat) : nI n * 17 + nI k = nI (n * 17 + k) := by
  rw [show (17 : Int32) = nI 17 from rfl, pk_mul, nI_add]
theorem pq_i8 (b j : Nat) : nI b * 8 + nI j = nI (8 * b + j) := by
  rw [show (8 : Int32) = nI 8 from rfl, pk_mul, nI_add, Nat.mul_comm]
theorem pq_8i (b j : Nat) : 8 * nI b + nI j = nI (8 * b + j) := by
  rw [show (8 : Int32) = nI 8 from rfl, pk_mul, nI_add]
theorem pq_b8 (b : Nat) : nI b * 8 = nI (8 * b) := by
  rw [show (8 : Int32) = nI 8 from rfl, pk_mul, Nat.mul_comm]
theorem pq_2i (a : Nat) : 2 * nI a = nI (2 * a) := by
  rw [show (2 : Int32) = nI 2 from rfl, pk_mul]
theorem pq_0i (a : Nat) : 0 + nI a = nI a := by
  rw [show (0 : Int32) = nI 0 from rfl, nI_add, Nat.zero_add]
def pq_tb (t : Nat → Int32) : Prop := ∀ j, j < 153 → t j = nI (pq_t j)
theorem pq_tb_V {t : Nat → Int32} (h : pq_tb t) {n k : Nat} (hn : n ≤ 8) (hk : k ≤ 16) : t (n * 17 + k) = nI (pq_V n k) := h _ (by omega)
theorem pq_nlt0 {x : Int32} (h : ¬ x < 0) : 0 ≤ x := Int32.not_lt.mp h
theorem pq_nle0 {x : Int32} (h : x < 0) : ¬ 0 ≤ x := Int32.not_le.mpr h
section PQS
variable {x_length x_cache x_pending x_readPosition : Int32} {x_low x_encoderRange x_decoderRange x_code x_decoderStep : Int64} {x_pulseCounts x_coefs x_energies x_pulses x_decoded x_vec x_sizes x_packet : Nat → Int32}
variable {y_pktLen y_pending y_rpos : Int32} {y_low y_rng y_cache y_drng y_dcode y_dr : Int64} {y_kb y_inp y_encQ y_encP y_decQ y_decP y_decC y_pkt y_vec y_work y_vt : Nat → Int32}
theorem px_clamp {post : Int32 → Prop} {v lo hi : Int32} (h : post (pq_cl v lo hi)) : wpX_clamp post v lo hi := by
  unfold pq_cl at h
  by_cases a : v < lo
  · rw [if_pos a] at h
    exact br_f (Int32.not_le.mpr a) h
  · rw [if_neg a] at h
    refine br_t (Int32.not_lt.mp a) ?_
    by_cases b : hi < v
    · rw [if_pos b] at h; exact br_f (Int32.not_le.mpr b) h
    · rw [if_neg b] at h; exact br_t (Int32.not_lt.mp b) h
theorem py_clamp {post : Int32 → Prop} {v lo hi : Int32} (h : post (pq_cl v lo hi)) : wpY_clamp post (y_pktLen, y_low, y_rng, y_cache, y_pending, y_rpos, y_drng, y_dcode, y_dr, y_kb, y_inp, y_encQ, y_encP, y_decQ, y_decP, y_decC, y_pkt, y_vec, y_work, y_vt) v lo hi := by
  unfold pq_cl at h
  by_cases a : v < lo
  · rw [if_pos a] at h
    exact br_f (Int32.not_le.mpr a) h
  · rw [if_neg a] at h
    refine br_t (Int32.not_lt.mp a) ?_
    by_cases b : hi < v
    · rw [if_pos b] at h; exact br_f (Int32.not_le.mpr b) h
    · rw [if_neg b] at h; exact br_t (Int32.not_lt.mp b) h
theorem px_mag {post : Int32 → Prop} {v : Int32} (h : post (nI (pq_mg v))) : wpX_magnitude post v := by
  by_cases c : v < 0
  · exact br_f (pq_nle0 c) (by rw [pq_mg_n c]; exact h)
  · exact br_t (pq_nlt0 c) (by rw [pq_mg_p c]; exact h)
theorem px_bl2 {post : Int32 → Prop} {M : Nat} (hM : M < 2 ^ 40) (h : post (nI (pq_bl M))) : ∀ d b, b + d = pq_bl M → wX_bitLength_2 post (lN M) (d + 1) (nI b) := by
  have hB := pq_bl_b hM
  intro d
  induction d with
  | zero =>
    intro b hb
    have e : lN M >>> ((nI b).toInt64 &&& 63) = lN (M / 2 ^ b) := pf_shr (pq_sh64 b (by omega)) (by omega)
    have z : lN M >>> ((nI b).toInt64 &&& 63) ≤ 0 := by
      have h2 := pq_bl_lt M
      have h3 : b = pq_bl M := by omega
      rw [← h3] at h2
      rw [e, pq_lz (Nat.lt_of_le_of_lt (Nat.div_le_self _ _) (by omega))]
      exact Nat.div_eq_of_lt h2
    have h4 : post (nI b) := by rw [show b = pq_bl M by omega]; exact h
    exact br_f (nI_ge (b := 63) (by omega) (by decide)) (br_t z h4)
  | succ d ih =>
    intro b hb
    have e : lN M >>> ((nI b).toInt64 &&& 63) = lN (M / 2 ^ b) := pf_shr (pq_sh64 b (by omega)) (by omega)
    have z : ¬ lN M >>> ((nI b).toInt64 &&& 63) ≤ 0 := by
      have h2 := pq_bl_le (M := M) (j := b) (by omega)
      have h3 := Nat.div_pos h2 (Nat.two_pow_pos b)
      rw [e, pq_lz (Nat.lt_of_le_of_lt (Nat.div_le_self _ _) (by omega))]
      omega
    exact br_f (nI_ge (b := 63) (by omega) (by decide)) (br_f z (nm_r (nI_1 b) (ih (b + 1) (by omega))))
theorem px_bl {post : Int32 → Prop} {M : Nat} {p0 : Int64} (e0 : p0 = lN M) (hM : M < 2 ^ 40) (h : post (nI (pq_bl M))) : wpX_bitLength post p0 := by
  subst e0
  exact ⟨pq_bl M + 1, px_bl2 hM h (pq_bl M) 0 (by omega)⟩
theorem py_bl5 {post : Int32 → Prop} {M : Nat} (hM : M < 2 ^ 40) (h : post (nI (pq_bl M))) : ∀ d b, b + d = pq_bl M → wY_bitlen_5 post y_pktLen y_low y_rng y_cache y_pending y_rpos y_drng y_dcode y_dr y_kb y_inp y_encQ y_encP y_decQ y_decP y_decC y_pkt y_vec y_work y_vt (d + 1) (lN (M / 2 ^ b)) (nI b) (nI b) := by
  have hB := pq_bl_b hM
  intro d
  induction d with
  | zero =>
    intro b hb
    have h2 := pq_bl_lt M
    have h3 : b = pq_bl M := by omega
    rw [← h3] at h2
    have z : lN (M / 2 ^ b) ≤ 0 := by
      rw [pq_lz (Nat.lt_of_le_of_lt (Nat.div_le_self _ _) (by omega))]
      exact Nat.div_eq_of_lt h2
    have h4 : post (nI b) := by rw [h3]; exact h
    exact br_f (nI_ge (b := 64) (by omega) (by decide)) (br_t z h4)
  | succ d ih =>
    intro b hb
    have z : ¬ lN (M / 2 ^ b) ≤ 0 := by
      have h2 := pq_bl_le (M := M) (j := b) (by omega)
      have h3 := Nat.div_pos h2 (Nat.two_pow_pos b)
      rw [pq_lz (Nat.lt_of_le_of_lt (Nat.div_le_self _ _) (by omega))]
      omega
    have e : lN (M / 2 ^ b) >>> ((1 : Int32).toInt64 &&& 63) = lN (M / 2 ^ (b + 1)) := by
      rw [pf_shr (d := 1) (by decide) (Nat.lt_of_le_of_lt (Nat.div_le_self _ _) (by omega)), Nat.div_div_eq_div_mul, ← Nat.pow_add]
    exact br_f (nI_ge (b := 64) (by omega) (by decide)) (br_f z (nm_r e (nm_r (nI_1 b) (nm_r (nI_1 b) (ih (b + 1) (by omega))))))
theorem py_bl {post : Int32 → Prop} {M : Nat} {p0 : Int64} (e0 : p0 = lN M) (hM : M < 2 ^ 40) (h : post (nI (pq_bl M))) : wpY_bitlen post (y_pktLen, y_low, y_rng, y_cache, y_pending, y_rpos, y_drng, y_dcode, y_dr, y_kb, y_inp, y_encQ, y_encP, y_decQ, y_decP, y_decC, y_pkt, y_vec, y_work, y_vt) p0 := by
  subst e0
  refine ⟨pq_bl M + 1, ?_⟩
  have e : lN M = lN (M / 2 ^ 0) := by rw [Nat.pow_zero, Nat.div_one]
  rw [e]
  exact py_bl5 hM h (pq_bl M) 0 (by omega)
theorem px_sq6 {post : Int32 → Prop} {M : Nat} (hM : M < 2 ^ 42) (h : post (nI (pq_rt M))) : ∀ b R, b ≤ 21 → R * R ≤ M → M < (R + 2 ^ b) * (R + 2 ^ b) → R + 2 ^ b ≤ 2 ^ 21 → wX_squareRoot_6 post (lN M) (b + 1) (lN R) (nI b + (-1)) := by
  intro b
  induction b with
  | zero =>
    intro R _ h1 h2 _
    have e : R = pq_rt M := pq_rt_u h1 h2
    refine br_t (by decide) ?_
    rw [lN_i, e]
    exact h
  | succ b ih =>
    intro R hb h1 h2 h3
    rw [pk_m1]
    have p : 2 ^ (b + 1) = 2 ^ b + 2 ^ b := by rw [Nat.pow_succ]; omega
    have pp : 1 ≤ 2 ^ b := Nat.one_le_two_pow
    have e : lN R + (1 : Int64) <<< ((nI b).toInt64 &&& 63) = lN (R + 2 ^ b) := by
      show lN R + lN 1 <<< ((nI b).toInt64 &&& 63) = _
      rw [wb_shl 1 (by omega), Nat.one_mul, lN_add]
    have q : (R + 2 ^ b) * (R + 2 ^ b) < 2 ^ 63 := by
      have : (R + 2 ^ b) * (R + 2 ^ b) ≤ 2 ^ 21 * 2 ^ 21 := Nat.mul_le_mul (by omega) (by omega)
      omega
    refine br_f (nI_pos (by omega)) (nm_r e ?_)
    by_cases c : M < (R + 2 ^ b) * (R + 2 ^ b)
    · refine br_t (by rw [lN_mul, pk_lLT (by omega) q]; exact c) (nm_e ?_)
      exact ih R (by omega) h1 c (by omega)
    · refine br_f (by rw [lN_mul, pk_lLT (by omega) q]; exact c) (nm_e ?_)
      exact ih (R + 2 ^ b) (by omega) (by omega) (by rw [Nat.add_assoc, ← p]; exact h2) (by omega)
theorem px_sq {post : Int32 → Prop} {M : Nat} {p0 : Int64} (e0 : p0 = lN M) (hM : M < 2 ^ 42) (h : post (nI (pq_rt M))) : wpX_squareRoot post p0 := by
  subst e0
  exact ⟨22, px_sq6 hM h 21 0 (by omega) (by omega) (by omega) (by omega)⟩
theorem py_sq10 {post : Int64 → Prop} {M : Nat} (hM : M ≤ 4294967296) (h : post (lN (pq_rt M))) : ∀ d lo hi c, hi - lo ≤ 2 ^ d → c + d ≤ 17 → lo < hi → hi ≤ 65537 → lo * lo ≤ M → M < hi * hi → wY_isqrt_10 post (lN M) y_pktLen y_low y_rng y_cache y_pending y_rpos y_drng y_dcode y_dr y_kb y_inp y_encQ y_encP y_decQ y_decP y_decC y_pkt y_vec y_work y_vt (d + 1) (lN lo) (lN hi) (nI c) := by
  intro d
  induction d with
  | zero =>
    intro lo hi c h1 h2 h3 h4 h5 h6
    have e : hi = lo + 1 := by omega
    subst e
    have r : lo = pq_rt M := pq_rt_u h5 h6
    refine br_f (nI_ge (b := 40) (by omega) (by decide)) (br_t ?_ (by rw [r]; exact h))
    rw [lN_sub (by omega), show lo + 1 - lo = 1 by omega]
    decide
  | succ d ih =>
    intro lo hi c h1 h2 h3 h4 h5 h6
    refine br_f (nI_ge (b := 40) (by omega) (by decide)) ?_
    by_cases z : hi - lo ≤ 1
    · have e : hi = lo + 1 := by omega
      subst e
      have r : lo = pq_rt M := pq_rt_u h5 h6
      refine br_t ?_ (by rw [r]; exact h)
      rw [lN_sub (by omega), show lo + 1 - lo = 1 by omega]
      decide
    · refine br_f ?_ ⟨by decide, ?_⟩
      · rw [lN_sub (by omega), show (1 : Int64) = lN 1 from rfl, pk_lLE (by omega) (by omega)]
        exact z
      · have e : (lN lo + lN hi) / 2 = lN ((lo + hi) / 2) := by
          rw [lN_add, show (2 : Int64) = lN 2 from rfl, pk_lDiv (by omega) (by omega) (by omega)]
        have p : 2 ^ (d + 1) = 2 ^ d + 2 ^ d := by rw [Nat.pow_succ]; omega
        have q : (lo + hi) / 2 * ((lo + hi) / 2) < 2 ^ 63 := by
          have : (lo + hi) / 2 * ((lo + hi) / 2) ≤ 65537 * 65537 := Nat.mul_le_mul (by omega) (by omega)
          omega
        refine nm_r e ?_
        by_cases c2 : M < (lo + hi) / 2 * ((lo + hi) / 2)
        · refine br_t (by rw [lN_mul, pk_lLT (by omega) q]; exact c2) (nm_r (nI_1 c) ?_)
          exact ih lo ((lo + hi) / 2) (c + 1) (by omega) (by omega) (by omega) (by omega) h5 c2
        · refine br_f (by rw [lN_mul, pk_lLT (by omega) q]; exact c2) (nm_r (nI_1 c) ?_)
          exact ih ((lo + hi) / 2) hi (c + 1) (by omega) (by omega) (by omega) (by omega) (by omega) h6
theorem py_sq {post : Int64 → Prop} {M : Nat} {p0 : Int64} (e0 : p0 = lN M) (hM : M ≤ 4294967296) (h : post (lN (pq_rt M))) : wpY_isqrt post (y_pktLen, y_low, y_rng, y_cache, y_pending, y_rpos, y_drng, y_dcode, y_dr, y_kb, y_inp, y_encQ, y_encP, y_decQ, y_decP, y_decC, y_pkt, y_vec, y_work, y_vt) p0 := by
  subst e0
  exact ⟨18, py_sq10 hM h 17 0 65537 0 (by omega) (by omega) (by omega) (by omega) (by omega) (by omega)⟩
theorem px_quo {post : Int64 → Prop} {a b : Nat} {p0 p1 : Int64} (e0 : p0 = lN a) (e1 : p1 = lN b) (ha : a < 2 ^ 63) (h1 : 1 ≤ b) (hb : b < 2 ^ 63) (h : post (lN (a / b))) : wpX_quotient post p0 p1 := by
  subst e0 e1
  exact br_t (pq_l1 h1 hb) ⟨pq_ln0 h1 hb, by rw [pk_lDiv ha h1 hb]; exact h⟩
theorem px_size {post : Int32 → Prop} {n k : Nat} {p0 p1 : Int32} (ht : pq_tb x_sizes) (hn : n ≤ 8) (hk : k ≤ 16) (e0 : p0 = nI n) (e1 : p1 = nI k) (h : post (nI (pq_V n k))) : wpX_sizeOf post (x_length, x_low, x_encoderRange, x_cache, x_pending, x_readPosition, x_decoderRange, x_code, x_decoderStep, x_pulseCounts, x_coefs, x_energies, x_pulses, x_decoded, x_vec, x_sizes, x_packet) p0 p1 := by
  subst e0 e1
  refine br_f (nI_pos (by omega)) (br_f (nI_nlt (a := 8) hn (by decide)) (br_f (nI_pos (by omega)) (br_t (nI_le (b := 16) hk (by decide)) ⟨pk_in (n * 17 + k) 153 (by omega) (pq_i17 n k), ?_⟩)))
  rw [pk_cl (n * 17 + k) (pq_i17 n k), pq_tb_V ht hn hk]
  exact h
theorem py_vv {post : Int32 → Prop} {n k : Nat} {p0 p1 : Int32} (ht : pq_tb y_vt) (hn : n ≤ 8) (hk : k ≤ 16) (e0 : p0 = nI n) (e1 : p1 = nI k) (h : post (nI (pq_V n k))) : wpY_vv post (y_pktLen, y_low, y_rng, y_cache, y_pending, y_rpos, y_drng, y_dcode, y_dr, y_kb, y_inp, y_encQ, y_encP, y_decQ, y_decP, y_decC, y_pkt, y_vec, y_work, y_vt) p0 p1 := by
  subst e0 e1
  refine br_f (nI_pos (by omega)) (br_f (nI_nlt (a := 8) hn (by decide)) (br_f (nI_pos (by omega)) (br_t (nI_le (b := 16) hk (by decide)) ⟨pk_in (n * 17 + k) 153 (by omega) (pq_i17 n k), ?_⟩)))
  rw [pk_cl (n * 17 + k) (pq_i17 n k), pq_tb_V ht hn hk]
  exact h
theorem px_cwf {post : Int32 → Prop} {m n k : Nat} {p0 p1 p2 : Int32} (ht : pq_tb x_sizes) (hn : n < 8) (hm : m ≤ k) (hk : k ≤ 16) (e0 : p0 = nI m) (e1 : p1 = nI (n + 1)) (e2 : p2 = nI k) (h : post (nI ((if m = 0 then 1 else 2) * pq_V n (k - m)))) : wpX_countWithFirst post (x_length, x_low, x_encoderRange, x_cache, x_pending, x_readPosition, x_decoderRange, x_code, x_decoderStep, x_pulseCounts, x_coefs, x_energies, x_pulses, x_decoded, x_vec, x_sizes, x_packet) p0 p1 p2 := by
  subst e0 e1 e2
  unfold wpX_countWithFirst
  dsimp only
  refine px_size (n := n) (k := k - m) ht (by omega) (by omega) (nI_pred n) (pk_sub hm) ?_
  by_cases z : m = 0
  · rw [if_pos z, Nat.one_mul] at h
    exact br_t (by rw [z]; rfl) h
  · rw [if_neg z] at h
    exact br_f (nI_ne0 (by omega) (by omega)) (by rw [pq_2i]; exact h)
theorem px_sym {post : Int32 → Prop} {s : Nat} {p0 : Int32} (e0 : p0 = nI s) (hs : s < 2 ^ 31) (h : post (nI (pq_f s))) : wpX_symbolSize post p0 := by
  subst e0
  by_cases c : s ≤ 8
  · exact br_f (nI_nlt (a := 8) c (by decide)) ⟨by decide, by rw [pq_f32 s c]; exact h⟩
  · have e : pq_f s = 1 := if_neg c
    rw [e] at h
    exact br_t (nI_lt (a := 8) (by omega) hs) h
theorem py_freq {post : Int32 → Prop} {s : Nat} {p0 : Int32} (e0 : p0 = nI s) (hs : s < 2 ^ 31) (h : post (nI (pq_f s))) : wpY_freq post (y_pktLen, y_low, y_rng, y_cache, y_pending, y_rpos, y_drng, y_dcode, y_dr, y_kb, y_inp, y_encQ, y_encP, y_decQ, y_decP, y_decC, y_pkt, y_vec, y_work, y_vt) p0 := by
  subst e0
  by_cases c : s ≤ 8
  · exact br_f (nI_nlt (a := 8) c (by decide)) ⟨by decide, by rw [pq_f32 s c]; exact h⟩
  · have e : pq_f s = 1 := if_neg c
    rw [e] at h
    exact br_t (nI_lt (a := 8) (by omega) hs) h
theorem py_st4 {post : Int32 → Prop} {s : Nat} (hs : s ≤ 67) (h : post (nI (pq_st s))) : ∀ d i, i + d = s → wY_startOf_4 post (nI s) y_pktLen y_low y_rng y_cache y_pending y_rpos y_drng y_dcode y_dr y_kb y_inp y_encQ y_encP y_decQ y_decP y_decC y_pkt y_vec y_work y_vt (d + 1) (nI (pq_st i)) (nI i) := by
  intro d
  induction d with
  | zero =>
    intro i hi
    have e : i = s := by omega
    subst e
    exact br_t (nI_le (Nat.le_refl _) (by omega)) h
  | succ d ih =>
    intro i hi
    refine br_f (nI_ge (by omega) (by omega)) (br_f (nI_ge (b := 67) (by omega) (by decide)) (py_freq (s := i) rfl (by omega) ?_))
    exact nm_r (nI_add _ _) (nm_r (nI_1 i) (ih (i + 1) (by omega)))
theorem py_st {post : Int32 → Prop} {s : Nat} {p0 : Int32} (e0 : p0 = nI s) (hs : s ≤ 67) (h : post (nI (pq_st s))) : wpY_startOf post (y_pktLen, y_low, y_rng, y_cache, y_pending, y_rpos, y_drng, y_dcode, y_dr, y_kb, y_inp, y_encQ, y_encP, y_decQ, y_decP, y_decC, y_pkt, y_vec, y_work, y_vt) p0 := by
  subst e0
  exact ⟨s + 1, py_st4 hs h s 0 (by omega)⟩
theorem px_low {post : Int32 → Prop} {k : Nat} {p0 : Int32} (hk : k ≤ 16) (e0 : p0 = nI (pq_V 8 k)) (h : post (nI (pq_ap k))) : wpX_lowBits post p0 := by
  subst e0
  have hv := pq_Vle (n := 8) (k := k) (by omega) hk
  have hp := pq_Vpos k (by omega)
  by_cases c : pq_V 8 k ≤ 65536
  · have e : pq_ap k = 0 := if_pos c
    rw [e] at h
    exact br_f (nI_nlt (a := 65536) c (by decide)) h
  · have ⟨_, _, _, a4⟩ := pq_ap_s k (by omega) (by omega)
    refine br_t (nI_lt (a := 65536) (by omega) (by omega)) ?_
    have e : (nI (pq_V 8 k) - 1).toInt64 = lN (pq_V 8 k - 1) := by
      rw [show (1 : Int32) = nI 1 from rfl, pk_sub hp, nI_l (by omega)]
    refine px_bl e (by omega) ?_
    rw [a4, show (16 : Int32) = nI 16 from rfl, pk_sub (by omega), Nat.add_sub_cancel]
    exact h
end PQS
end
section
/-! the range encoder's walks -/
theorem pq_rem256 {a : Nat} (h : a < 2 ^ 31) : nI a - nI a / 256 * 256 = nI (a % 256) := pk_rem (d := 256) h (by decide) (by decide)
theorem pq_and255 {a : Nat} (h : a < 2 ^ 31) : nI a &&& 255 = nI (a % 256) := pk_andN (n := a) (by omega) 8 (by decide)
theorem pq_l24 {a : Nat} (h : a < 2 ^ 62) : ((lN a).toUInt64 >>> ((24 : Int32).toInt64.toUInt64 &&& Int64.toUInt64 63)).toInt64 = lN (a / 16777216) := pf_ushr (d := 24) (by decide) h
theorem pq_l32 {a : Nat} (h : a < 2 ^ 62) : ((lN a).toUInt64 >>> ((32 : Int32).toInt64.toUInt64 &&& Int64.toUInt64 63)).toInt64 = lN (a / 4294967296) := pf_ushr (d := 32) (by decide) h
theorem pq_la255 {a : Nat} (h : a < 2 ^ 64) : lN a &&& 255 = lN (a % 256) := g_mask (s := 8) (p := 256) (by decide) (by decide) h
theorem pq_la24 {a : Nat} (h : a < 2 ^ 64) : lN a &&& 16777215 = lN (a % 16777216) := g_mask (s := 24) (p := 16777216) (by decide) (by decide) h
theorem pq_la32 {a : Nat} (h : a < 2 ^ 64) : lN a &&& 4294967295 = lN (a % 4294967296) := g_mask (s := 32) (p := 4294967296) (by decide) (by decide) h
theorem pq_ld24 {a : Nat} (h : a < 2 ^ 63) : lN a / 16777216 = lN (a / 16777216) := pk_lDiv (b := 16777216) h (by decide) (by decide)
theorem pq_ld32 {a : Nat} (h : a < 2 ^ 63) : lN a / 4294967296 = lN (a / 4294967296) := pk_lDiv (b := 4294967296) h (by decide) (by decide)
theorem pq_lr256 {a : Nat} (h : a < 2 ^ 63) : lN a - lN a / 256 * 256 = lN (a % 256) := pk_lRem (b := 256) h (by decide) (by decide)
theorem pq_lr24 {a : Nat} (h : a < 2 ^ 63) : lN a - lN a / 16777216 * 16777216 = lN (a % 16777216) := pk_lRem (b := 16777216) h (by decide) (by decide)
theorem pq_lr32 {a : Nat} (h : a < 2 ^ 63) : lN a - lN a / 4294967296 * 4294967296 = lN (a % 4294967296) := pk_lRem (b := 4294967296) h (by decide) (by decide)
theorem pq_lm256 (a : Nat) : lN a * 256 = lN (a * 256) := lN_mul a 256
section PQC
variable {x_length x_cache x_pending x_readPosition : Int32} {x_low x_encoderRange x_decoderRange x_code x_decoderStep : Int64} {x_pulseCounts x_coefs x_energies x_pulses x_decoded x_vec x_sizes x_packet : Nat → Int32}
variable {y_pktLen y_pending y_rpos : Int32} {y_low y_rng y_cache y_drng y_dcode y_dr : Int64} {y_kb y_inp y_encQ y_encP y_decQ y_decP y_decC y_pkt y_vec y_work y_vt : Nat → Int32}
theorem px_emit {post : SX → Prop} {le x : Nat} {pk : Nat → Int32} {p0 : Int32} (e0 : p0 = nI x) (hl : le ≤ 64) (h : post (nI (pq_em x (le, pk)).1, x_low, x_encoderRange, x_cache, x_pending, x_readPosition, x_decoderRange, x_code, x_decoderStep, x_pulseCounts, x_coefs, x_energies, x_pulses, x_decoded, x_vec, x_sizes, (pq_em x (le, pk)).2)) : wpX_emit post (nI le, x_low, x_encoderRange, x_cache, x_pending, x_readPosition, x_decoderRange, x_code, x_decoderStep, x_pulseCounts, x_coefs, x_energies, x_pulses, x_decoded, x_vec, x_sizes, pk) p0 := by
  subst e0
  refine br_f (nI_pos (by omega)) ?_
  by_cases c : le < 64
  · have e : pq_em x (le, pk) = (le + 1, upd pk le (nI x)) := if_pos c
    rw [e] at h
    exact br_f (nI_ge (b := 64) c (by decide)) ⟨vp_in_nI c (by decide), nm_r (e' := upd pk le (nI x)) (by rw [nI_clamp (by omega)]) (nm_r (nI_1 le) h)⟩
  · have e : pq_em x (le, pk) = (le, pk) := if_neg c
    rw [e] at h
    exact br_t (nI_le (a := 64) (by omega) (by omega)) h
theorem py_emit {post : SY → Prop} {le x : Nat} {pk : Nat → Int32} {p0 : Int32} (e0 : p0 = nI x) (hl : le ≤ 64) (h : post (nI (pq_em x (le, pk)).1, y_low, y_rng, y_cache, y_pending, y_rpos, y_drng, y_dcode, y_dr, y_kb, y_inp, y_encQ, y_encP, y_decQ, y_decP, y_decC, (pq_em x (le, pk)).2, y_vec, y_work, y_vt)) : wpY_emit post (nI le, y_low, y_rng, y_cache, y_pending, y_rpos, y_drng, y_dcode, y_dr, y_kb, y_inp, y_encQ, y_encP, y_decQ, y_decP, y_decC, pk, y_vec, y_work, y_vt) p0 := by
  subst e0
  by_cases c : le < 64
  · have e : pq_em x (le, pk) = (le + 1, upd pk le (nI x)) := if_pos c
    rw [e] at h
    exact br_f (nI_ge (b := 64) c (by decide)) ⟨vp_in_nI c (by decide), nm_r (e' := upd pk le (nI x)) (by rw [nI_clamp (by omega)]) (nm_r (nI_1 le) h)⟩
  · have e : pq_em x (le, pk) = (le, pk) := if_neg c
    rw [e] at h
    exact br_t (nI_le (a := 64) (by omega) (by omega)) h
theorem px_97 {post : SX → Prop} {lo pe : Nat} (hl : lo < 2 ^ 62) (h : post (x_length, lN (lo % 16777216 * 256), x_encoderRange, x_cache, nI (pe + 1), x_readPosition, x_decoderRange, x_code, x_decoderStep, x_pulseCounts, x_coefs, x_energies, x_pulses, x_decoded, x_vec, x_sizes, x_packet)) : wX_shiftLow_97 post x_length (lN lo) x_encoderRange x_cache (nI pe) x_readPosition x_decoderRange x_code x_decoderStep x_pulseCounts x_coefs x_energies x_pulses x_decoded x_vec x_sizes x_packet := by
  refine nm_r (nI_1 pe) ⟨by decide, nm_r (e' := lN (lo % 16777216 * 256)) ?_ h⟩
  rw [pq_lr24 (by omega), pq_lm256]
theorem py_96 {post : SY → Prop} {lo pe : Nat} (hl : lo < 2 ^ 62) (h : post (y_pktLen, lN (lo % 16777216 * 256), y_rng, y_cache, nI (pe + 1), y_rpos, y_drng, y_dcode, y_dr, y_kb, y_inp, y_encQ, y_encP, y_decQ, y_decP, y_decC, y_pkt, y_vec, y_work, y_vt)) : wY_shiftLow_96 post y_pktLen (lN lo) y_rng y_cache (nI pe) y_rpos y_drng y_dcode y_dr y_kb y_inp y_encQ y_encP y_decQ y_decP y_decC y_pkt y_vec y_work y_vt := by
  refine nm_r (nI_1 pe) (nm_r (e' := lN (lo % 16777216 * 256)) ?_ h)
  rw [pq_la24 (by omega), pq_lm256]
theorem px_48 {post : SX → Prop} {lo pe c : Nat} (hl : lo < 2 ^ 62) (hp : pe < 2 ^ 30) (hc : c < 2 ^ 30) : ∀ d i (s : Nat × (Nat → Int32)), d = pe - i → i < 2 ^ 30 → s.1 ≤ 64 → post (nI (pq_en ((255 + c) % 256) d s).1, lN (lo % 16777216 * 256), x_encoderRange, nI (lo / 16777216 % 256), nI 1, x_readPosition, x_decoderRange, x_code, x_decoderStep, x_pulseCounts, x_coefs, x_energies, x_pulses, x_decoded, x_vec, x_sizes, (pq_en ((255 + c) % 256) d s).2) →
    wX_shiftLow_48 post (nI c) (d + 1) (nI i) (nI s.1) (lN lo) x_encoderRange x_cache (nI pe) x_readPosition x_decoderRange x_code x_decoderStep x_pulseCounts x_coefs x_energies x_pulses x_decoded x_vec x_sizes s.2 := by
  intro d
  induction d with
  | zero =>
    intro i s hd hi hs h
    refine br_t (nI_le (by omega) (by omega)) ⟨by decide, by decide, nm_r (e' := nI (lo / 16777216 % 256)) ?_ (px_97 (pe := 0) hl h)⟩
    rw [pq_ld24 (by omega), pq_lr256 (Nat.lt_of_le_of_lt (Nat.div_le_self _ _) (by omega)), lN_i]
  | succ d ih =>
    intro i s hd hi hs h
    refine br_f (nI_ge (by omega) (by omega)) ⟨by decide, px_emit (x := (255 + c) % 256) (le := s.1) (pk := s.2) ?_ hs (nm_r (nI_1 i) (ih (i + 1) (pq_em ((255 + c) % 256) s) (by omega) (by omega) ?_ h))⟩
    · rw [show (255 : Int32) + nI c = nI (255 + c) from nI_add 255 c, pq_rem256 (by omega)]
    · unfold pq_em
      split
      · show s.1 + 1 ≤ 64; omega
      · exact hs
theorem py_49 {post : SY → Prop} {lo pe c : Nat} (hl : lo < 2 ^ 62) (hp : pe < 2 ^ 30) (hc : c < 2 ^ 30) : ∀ d i (s : Nat × (Nat → Int32)), d = pe - i → i < 2 ^ 30 → s.1 ≤ 64 → post (nI (pq_en ((255 + c) % 256) d s).1, lN (lo % 16777216 * 256), y_rng, lN (lo / 16777216 % 256), nI 1, y_rpos, y_drng, y_dcode, y_dr, y_kb, y_inp, y_encQ, y_encP, y_decQ, y_decP, y_decC, (pq_en ((255 + c) % 256) d s).2, y_vec, y_work, y_vt) →
    wY_shiftLow_49 post (nI c) (d + 1) (nI i) (nI s.1) (lN lo) y_rng y_cache (nI pe) y_rpos y_drng y_dcode y_dr y_kb y_inp y_encQ y_encP y_decQ y_decP y_decC s.2 y_vec y_work y_vt := by
  intro d
  induction d with
  | zero =>
    intro i s hd hi hs h
    refine br_t (nI_le (by omega) (by omega)) (nm_r (e' := lN (lo / 16777216 % 256)) ?_ (py_96 (pe := 0) hl h))
    rw [pq_l24 hl, pq_la255 (Nat.lt_of_le_of_lt (Nat.div_le_self _ _) (by omega))]
  | succ d ih =>
    intro i s hd hi hs h
    refine br_f (nI_ge (by omega) (by omega)) (py_emit (x := (255 + c) % 256) (le := s.1) (pk := s.2) ?_ hs (nm_r (nI_1 i) (ih (i + 1) (pq_em ((255 + c) % 256) s) (by omega) (by omega) ?_ h)))
    · rw [show (255 : Int32) + nI c = nI (255 + c) from nI_add 255 c, pq_and255 (by omega)]
    · unfold pq_em
      split
      · show s.1 + 1 ≤ 64; omega
      · exact hs
theorem pq_sh_t {e : pq_E} (c : e.1 < 4278190080 ∨ 4294967296 ≤ e.1) : pq_sh e = (e.1 % 16777216 * 256, e.2.1, e.1 / 16777216 % 256, 1, pq_en ((255 + e.1 / 4294967296) % 256) (e.2.2.2.1 - 1) (pq_em ((e.2.2.1 + e.1 / 4294967296) % 256) (e.2.2.2.2.1, e.2.2.2.2.2))) := if_pos c
theorem pq_sh_f {e : pq_E} (c : ¬ (e.1 < 4278190080 ∨ 4294967296 ≤ e.1)) : pq_sh e = (e.1 % 16777216 * 256, e.2.1, e.2.2.1, e.2.2.2.1 + 1, e.2.2.2.2.1, e.2.2.2.2.2) := if_neg c
theorem px_22 {post : SX → Prop} {B : Nat} {e : pq_E} (hw : pq_EW B e) (hB : B < 2 ^ 20) (hl : e.1 < 2 ^ 40) (c : e.1 < 4278190080 ∨ 4294967296 ≤ e.1) (h : post (nI ((pq_sh e)).2.2.2.2.1, lN ((pq_sh e)).1, lN ((pq_sh e)).2.1, nI ((pq_sh e)).2.2.1, nI ((pq_sh e)).2.2.2.1, x_readPosition, x_decoderRange, x_code, x_decoderStep, x_pulseCounts, x_coefs, x_energies, x_pulses, x_decoded, x_vec, x_sizes, ((pq_sh e)).2.2.2.2.2)) : wX_shiftLow_22 post (nI e.2.2.2.2.1) (lN e.1) (lN e.2.1) (nI e.2.2.1) (nI e.2.2.2.1) x_readPosition x_decoderRange x_code x_decoderStep x_pulseCounts x_coefs x_energies x_pulses x_decoded x_vec x_sizes e.2.2.2.2.2 := by
  obtain ⟨h1, h2, h3, h4⟩ := hw
  rw [pq_sh_t c] at h
  have hc : e.1 / 4294967296 < 2 ^ 30 := by omega
  refine ⟨by decide, nm_r (e' := nI (e.1 / 4294967296)) (by rw [pq_ld32 (by omega), lN_i]) ⟨by decide, px_emit (x := (e.2.2.1 + e.1 / 4294967296) % 256) ?_ h3 ⟨e.2.2.2.1 - 1 + 1, px_48 (by omega) (by omega) hc (e.2.2.2.1 - 1) 1 _ rfl (by omega) (pq_em_s (Nat.mod_lt _ (by decide)) h3 h4).1 h⟩⟩⟩
  rw [nI_add, pq_rem256 (by omega)]
theorem py_22 {post : SY → Prop} {B : Nat} {e : pq_E} (hw : pq_EW B e) (hB : B < 2 ^ 20) (hl : e.1 < 2 ^ 40) (c : e.1 < 4278190080 ∨ 4294967296 ≤ e.1) (h : post (nI ((pq_sh e)).2.2.2.2.1, lN ((pq_sh e)).1, lN ((pq_sh e)).2.1, lN ((pq_sh e)).2.2.1, nI ((pq_sh e)).2.2.2.1, y_rpos, y_drng, y_dcode, y_dr, y_kb, y_inp, y_encQ, y_encP, y_decQ, y_decP, y_decC, ((pq_sh e)).2.2.2.2.2, y_vec, y_work, y_vt)) : wY_shiftLow_22 post (nI e.2.2.2.2.1) (lN e.1) (lN e.2.1) (lN e.2.2.1) (nI e.2.2.2.1) y_rpos y_drng y_dcode y_dr y_kb y_inp y_encQ y_encP y_decQ y_decP y_decC e.2.2.2.2.2 y_vec y_work y_vt := by
  obtain ⟨h1, h2, h3, h4⟩ := hw
  rw [pq_sh_t c] at h
  have hc : e.1 / 4294967296 < 2 ^ 30 := by omega
  refine nm_r (e' := nI (e.1 / 4294967296)) (by rw [pq_l32 (by omega), lN_i]) (py_emit (x := (e.2.2.1 + e.1 / 4294967296) % 256) ?_ h3 ⟨e.2.2.2.1 - 1 + 1, py_49 (by omega) (by omega) hc (e.2.2.2.1 - 1) 1 _ rfl (by omega) (pq_em_s (Nat.mod_lt _ (by decide)) h3 h4).1 h⟩)
  rw [nI_l (by omega), lN_add, pq_la255 (by omega), lN_i]
theorem px_sh {post : SX → Prop} {B : Nat} {e : pq_E} (hw : pq_EW B e) (hB : B < 2 ^ 20) (hl : e.1 < 2 ^ 40) (h : post (nI ((pq_sh e)).2.2.2.2.1, lN ((pq_sh e)).1, lN ((pq_sh e)).2.1, nI ((pq_sh e)).2.2.1, nI ((pq_sh e)).2.2.2.1, x_readPosition, x_decoderRange, x_code, x_decoderStep, x_pulseCounts, x_coefs, x_energies, x_pulses, x_decoded, x_vec, x_sizes, ((pq_sh e)).2.2.2.2.2)) : wpX_shiftLow post (nI e.2.2.2.2.1, lN e.1, lN e.2.1, nI e.2.2.1, nI e.2.2.2.1, x_readPosition, x_decoderRange, x_code, x_decoderStep, x_pulseCounts, x_coefs, x_energies, x_pulses, x_decoded, x_vec, x_sizes, e.2.2.2.2.2) := by
  by_cases a : e.1 < 4278190080
  · exact br_t ((pk_lLT (b := 4278190080) (by omega) (by decide)).mpr a) (px_22 hw hB hl (Or.inl a) h)
  · refine br_f (fun z => a ((pk_lLT (b := 4278190080) (by omega) (by decide)).mp z)) ?_
    by_cases b : e.1 < 4294967296
    · refine br_t ((pk_lLT (b := 4294967296) (by omega) (by decide)).mpr b) ?_
      rw [pq_sh_f (by omega)] at h
      exact px_97 (by omega) h
    · exact br_f (fun z => b ((pk_lLT (b := 4294967296) (by omega) (by decide)).mp z)) (px_22 hw hB hl (Or.inr (by omega)) h)
theorem py_sh {post : SY → Prop} {B : Nat} {e : pq_E} (hw : pq_EW B e) (hB : B < 2 ^ 20) (hl : e.1 < 2 ^ 40) (h : post (nI ((pq_sh e)).2.2.2.2.1, lN ((pq_sh e)).1, lN ((pq_sh e)).2.1, lN ((pq_sh e)).2.2.1, nI ((pq_sh e)).2.2.2.1, y_rpos, y_drng, y_dcode, y_dr, y_kb, y_inp, y_encQ, y_encP, y_decQ, y_decP, y_decC, ((pq_sh e)).2.2.2.2.2, y_vec, y_work, y_vt)) : wpY_shiftLow post (nI e.2.2.2.2.1, lN e.1, lN e.2.1, lN e.2.2.1, nI e.2.2.2.1, y_rpos, y_drng, y_dcode, y_dr, y_kb, y_inp, y_encQ, y_encP, y_decQ, y_decP, y_decC, e.2.2.2.2.2, y_vec, y_work, y_vt) := by
  by_cases a : e.1 < 4278190080
  · exact br_t ((pk_lLT (b := 4278190080) (by omega) (by decide)).mpr a) (py_22 hw hB hl (Or.inl a) h)
  · refine br_f (fun z => a ((pk_lLT (b := 4278190080) (by omega) (by decide)).mp z)) ?_
    by_cases b : e.1 < 4294967296
    · refine br_t ((pk_lLT (b := 4294967296) (by omega) (by decide)).mpr b) ?_
      rw [pq_sh_f (by omega)] at h
      exact py_96 (by omega) h
    · exact br_f (fun z => b ((pk_lLT (b := 4294967296) (by omega) (by decide)).mp z)) (py_22 hw hB hl (Or.inr (by omega)) h)
theorem pq_rnge {a : Nat} (ha : a < 2 ^ 62) : (16777216 : Int64) ≤ lN a ↔ 16777216 ≤ a := pk_lLE (a := 16777216) (by decide) (by omega)
theorem px_rn {post : SX → Prop} {B : Nat} {e : pq_E} (hw : pq_EW B e) (hB : B + 2 < 2 ^ 20) (hl : e.1 < 2 ^ 40) (h2 : 256 ≤ e.2.1) (h3 : e.2.1 < 4294967296) (h : post (nI ((pq_rn e)).2.2.2.2.1, lN ((pq_rn e)).1, lN ((pq_rn e)).2.1, nI ((pq_rn e)).2.2.1, nI ((pq_rn e)).2.2.2.1, x_readPosition, x_decoderRange, x_code, x_decoderStep, x_pulseCounts, x_coefs, x_energies, x_pulses, x_decoded, x_vec, x_sizes, ((pq_rn e)).2.2.2.2.2)) : wX_codeSymbol_37 post 3 0 (nI e.2.2.2.2.1) (lN e.1) (lN e.2.1) (nI e.2.2.1) (nI e.2.2.2.1) x_readPosition x_decoderRange x_code x_decoderStep x_pulseCounts x_coefs x_energies x_pulses x_decoded x_vec x_sizes e.2.2.2.2.2 := by
  have w1 : pq_EW B (e.1, e.2.1 * 256, e.2.2) := hw
  have l1 : (pq_s1 e).1 < 4294967296 := pq_s1_1 e
  have r1 : (pq_s1 e).2.1 = e.2.1 * 256 := pq_s1_2 e
  have w2 : pq_EW (B + 1) ((pq_s1 e).1, (pq_s1 e).2.1 * 256, (pq_s1 e).2.2) := pq_s1_w hw
  have r2 : (pq_s1 (pq_s1 e)).2.1 = (pq_s1 e).2.1 * 256 := pq_s1_2 _
  unfold pq_rn at h
  refine br_f (by decide) ?_
  by_cases c : e.2.1 < 16777216
  · rw [if_pos c] at h
    refine br_f (by rw [pq_rnge (by omega)]; omega) (nm_r (pq_lm256 _) (px_sh (e := (e.1, e.2.1 * 256, e.2.2)) w1 (by omega) hl (nm_e ?_)))
    refine br_f (by decide) ?_
    by_cases d : (pq_s1 e).2.1 < 16777216
    · rw [if_pos d] at h
      refine br_f (by show ¬ (16777216 : Int64) ≤ lN (pq_s1 e).2.1; rw [pq_rnge (by omega)]; omega) (nm_r (pq_lm256 _) (px_sh (e := ((pq_s1 e).1, (pq_s1 e).2.1 * 256, (pq_s1 e).2.2)) w2 (by omega) (by show (pq_s1 e).1 < _; omega) (nm_e ?_)))
      refine br_f (by decide) (br_t ?_ h)
      show (16777216 : Int64) ≤ lN (pq_s1 (pq_s1 e)).2.1
      rw [pq_rnge (by omega)]
      omega
    · rw [if_neg d] at h
      refine br_t ?_ h
      show (16777216 : Int64) ≤ lN (pq_s1 e).2.1
      rw [pq_rnge (by omega)]
      omega
  · rw [if_neg c] at h
    exact br_t (by rw [pq_rnge (by omega)]; omega) h
theorem py_rn {post : SY → Prop} {B : Nat} {e : pq_E} (hw : pq_EW B e) (hB : B + 2 < 2 ^ 20) (hl : e.1 < 2 ^ 40) (h2 : 256 ≤ e.2.1) (h3 : e.2.1 < 4294967296) (h : post (nI ((pq_rn e)).2.2.2.2.1, lN ((pq_rn e)).1, lN ((pq_rn e)).2.1, lN ((pq_rn e)).2.2.1, nI ((pq_rn e)).2.2.2.1, y_rpos, y_drng, y_dcode, y_dr, y_kb, y_inp, y_encQ, y_encP, y_decQ, y_decP, y_decC, ((pq_rn e)).2.2.2.2.2, y_vec, y_work, y_vt)) : wY_code_43 post 3 0 (nI e.2.2.2.2.1) (lN e.1) (lN e.2.1) (lN e.2.2.1) (nI e.2.2.2.1) y_rpos y_drng y_dcode y_dr y_kb y_inp y_encQ y_encP y_decQ y_decP y_decC e.2.2.2.2.2 y_vec y_work y_vt := by
  have w1 : pq_EW B (e.1, e.2.1 * 256, e.2.2) := hw
  have l1 : (pq_s1 e).1 < 4294967296 := pq_s1_1 e
  have r1 : (pq_s1 e).2.1 = e.2.1 * 256 := pq_s1_2 e
  have w2 : pq_EW (B + 1) ((pq_s1 e).1, (pq_s1 e).2.1 * 256, (pq_s1 e).2.2) := pq_s1_w hw
  have r2 : (pq_s1 (pq_s1 e)).2.1 = (pq_s1 e).2.1 * 256 := pq_s1_2 _
  unfold pq_rn at h
  refine br_f (by decide) ?_
  by_cases c : e.2.1 < 16777216
  · rw [if_pos c] at h
    refine br_f (by rw [pq_rnge (by omega)]; omega) (nm_r (pq_lm256 _) (py_sh (e := (e.1, e.2.1 * 256, e.2.2)) w1 (by omega) hl (nm_e ?_)))
    refine br_f (by decide) ?_
    by_cases d : (pq_s1 e).2.1 < 16777216
    · rw [if_pos d] at h
      refine br_f (by show ¬ (16777216 : Int64) ≤ lN (pq_s1 e).2.1; rw [pq_rnge (by omega)]; omega) (nm_r (pq_lm256 _) (py_sh (e := ((pq_s1 e).1, (pq_s1 e).2.1 * 256, (pq_s1 e).2.2)) w2 (by omega) (by show (pq_s1 e).1 < _; omega) (nm_e ?_)))
      refine br_f (by decide) (br_t ?_ h)
      show (16777216 : Int64) ≤ lN (pq_s1 (pq_s1 e)).2.1
      rw [pq_rnge (by omega)]
      omega
    · rw [if_neg d] at h
      refine br_t ?_ h
      show (16777216 : Int64) ≤ lN (pq_s1 e).2.1
      rw [pq_rnge (by omega)]
      omega
  · rw [if_neg c] at h
    exact br_t (by rw [pq_rnge (by omega)]; omega) h
theorem px_cd {post : SX → Prop} {B : Nat} {e : pq_E} {start size total : Nat} {p0 p1 p2 : Int32} (hE : pq_EI B e) (hB : B + 2 < 2 ^ 20) (h0 : 1 ≤ total) (h1 : total ≤ 65536) (h2 : 1 ≤ size) (h3 : start + size ≤ total) (e0 : p0 = nI start) (e1 : p1 = nI size) (e2 : p2 = nI total) (h : post (nI ((pq_cd e start size total)).2.2.2.2.1, lN ((pq_cd e start size total)).1, lN ((pq_cd e start size total)).2.1, nI ((pq_cd e start size total)).2.2.1, nI ((pq_cd e start size total)).2.2.2.1, x_readPosition, x_decoderRange, x_code, x_decoderStep, x_pulseCounts, x_coefs, x_energies, x_pulses, x_decoded, x_vec, x_sizes, ((pq_cd e start size total)).2.2.2.2.2)) : wpX_codeSymbol post (nI e.2.2.2.2.1, lN e.1, lN e.2.1, nI e.2.2.1, nI e.2.2.2.1, x_readPosition, x_decoderRange, x_code, x_decoderStep, x_pulseCounts, x_coefs, x_energies, x_pulses, x_decoded, x_vec, x_sizes, e.2.2.2.2.2) p0 p1 p2 := by
  subst e0 e1 e2
  have ⟨a, b, c⟩ := pq_c0_s hE h0 h1 h2 h3
  have r1 := hE.2.2.2
  unfold wpX_codeSymbol
  dsimp only
  refine px_quo (a := e.2.1) (b := total) rfl (nI_l (by omega)) (by omega) h0 (by omega) ?_
  refine nm_r (e' := lN (e.1 + e.2.1 / total * start)) (by rw [nI_l (by omega), lN_mul, lN_add]) (nm_r (e' := lN (e.2.1 / total * size)) (by rw [nI_l (by omega), lN_mul]) ⟨3, ?_⟩)
  exact px_rn (e := pq_c0 e start size total) hE.1 hB (by omega) b c h
theorem py_cd {post : SY → Prop} {B : Nat} {e : pq_E} {start size total : Nat} {p0 p1 p2 : Int64} (hE : pq_EI B e) (hB : B + 2 < 2 ^ 20) (h0 : 1 ≤ total) (h1 : total ≤ 65536) (h2 : 1 ≤ size) (h3 : start + size ≤ total) (e0 : p0 = lN start) (e1 : p1 = lN size) (e2 : p2 = lN total) (h : post (nI ((pq_cd e start size total)).2.2.2.2.1, lN ((pq_cd e start size total)).1, lN ((pq_cd e start size total)).2.1, lN ((pq_cd e start size total)).2.2.1, nI ((pq_cd e start size total)).2.2.2.1, y_rpos, y_drng, y_dcode, y_dr, y_kb, y_inp, y_encQ, y_encP, y_decQ, y_decP, y_decC, ((pq_cd e start size total)).2.2.2.2.2, y_vec, y_work, y_vt)) : wpY_code post (nI e.2.2.2.2.1, lN e.1, lN e.2.1, lN e.2.2.1, nI e.2.2.2.1, y_rpos, y_drng, y_dcode, y_dr, y_kb, y_inp, y_encQ, y_encP, y_decQ, y_decP, y_decC, e.2.2.2.2.2, y_vec, y_work, y_vt) p0 p1 p2 := by
  subst e0 e1 e2
  have ⟨a, b, c⟩ := pq_c0_s hE h0 h1 h2 h3
  have r1 := hE.2.2.2
  have ⟨q1, q2⟩ := pq_r hE.2.2.1 h0 h1
  have q3 : e.2.1 / total ≤ e.2.1 := Nat.div_le_self _ _
  refine ⟨pq_ln0 h0 (by omega), nm_r (e' := lN (e.2.1 / total)) (pk_lDiv (by omega) h0 (by omega)) (br_t (pq_l1 (by omega) (by omega)) ?_)⟩
  refine nm_r (e' := lN (e.1 + e.2.1 / total * start)) (by rw [lN_mul, lN_add]) (nm_r (e' := lN (e.2.1 / total * size)) (by rw [lN_mul]) ⟨3, ?_⟩)
  exact py_rn (e := pq_c0 e start size total) hE.1 hB (by omega) b c h
end PQC
end
section
/-! the range decoder's walks -/
def pq_rs (s : Nat) : Int32 := if nI s - nI s / 2 * 2 = 0 then nI s / 2 else (-(nI s + 1)) / 2
section PQD
variable {x_length x_cache x_pending x_readPosition : Int32} {x_low x_encoderRange x_decoderRange x_code x_decoderStep : Int64} {x_pulseCounts x_coefs x_energies x_pulses x_decoded x_vec x_sizes x_packet : Nat → Int32}
variable {y_pktLen y_pending y_rpos : Int32} {y_low y_rng y_cache y_drng y_dcode y_dr : Int64} {y_kb y_inp y_encQ y_encP y_decQ y_decP y_decC y_pkt y_vec y_work y_vt : Nat → Int32}
variable {pk : Nat → Int32} {le : Nat}
theorem px_39 {post : SX → Prop} {p c b : Nat} (hc : c < 2 ^ 40) (hb : b < 256) (h : post (x_length, x_low, x_encoderRange, x_cache, x_pending, nI (p + 1), x_decoderRange, lN ((c * 256 + b) % 4294967296), x_decoderStep, x_pulseCounts, x_coefs, x_energies, x_pulses, x_decoded, x_vec, x_sizes, x_packet)) : wX_takeByte_39 post (nI b) x_length x_low x_encoderRange x_cache x_pending (nI p) x_decoderRange (lN c) x_decoderStep x_pulseCounts x_coefs x_energies x_pulses x_decoded x_vec x_sizes x_packet := by
  refine nm_r (nI_1 p) ⟨by decide, nm_r (e' := lN ((c * 256 + b) % 4294967296)) ?_ h⟩
  rw [nI_l (by omega), pq_lm256, lN_add, pq_lr32 (by omega)]
theorem px_tk {post : SX → Prop} {d : pq_D} (hB : pq_B pk) (hl : le ≤ 64) (hp : d.1 < 2 ^ 30) (hc : d.2.2 < 2 ^ 40) (h : post (nI le, x_low, x_encoderRange, x_cache, x_pending, nI ((pq_tk pk le d)).1, lN ((pq_tk pk le d)).2.1, lN ((pq_tk pk le d)).2.2, x_decoderStep, x_pulseCounts, x_coefs, x_energies, x_pulses, x_decoded, x_vec, x_sizes, pk)) : wpX_takeByte post (nI le, x_low, x_encoderRange, x_cache, x_pending, nI d.1, lN d.2.1, lN d.2.2, x_decoderStep, x_pulseCounts, x_coefs, x_energies, x_pulses, x_decoded, x_vec, x_sizes, pk) := by
  have hb := pq_by_lt hB hl d.1
  refine br_f (nI_pos (by omega)) ?_
  by_cases c : d.1 < le
  · have ⟨y1, y2⟩ := pq_by_e hB hl c
    refine br_f (nI_ge (b := 64) (by omega) (by decide)) (br_f (nI_ge c (by omega)) ⟨vp_in_nI (by omega) (by decide), nm_r (e' := nI (pq_by pk le d.1)) ?_ (px_39 hc hb h)⟩)
    rw [nI_clamp (by omega), y1]
  · have z := pq_by_z (pk := pk) c
    have h' : post (nI le, x_low, x_encoderRange, x_cache, x_pending, nI (d.1 + 1), lN d.2.1, lN ((d.2.2 * 256 + 0) % 4294967296), x_decoderStep, x_pulseCounts, x_coefs, x_energies, x_pulses, x_decoded, x_vec, x_sizes, pk) := by
      rw [← z]; exact h
    by_cases c2 : 64 ≤ d.1
    · exact br_t (nI_le (a := 64) c2 (by omega)) (px_39 (b := 0) hc (by decide) h')
    · exact br_f (nI_ge (b := 64) (by omega) (by decide)) (br_t (nI_le (by omega) (by omega)) (px_39 (b := 0) hc (by decide) h'))
theorem py_nb {post : Int32 → SY → Prop} {p : Nat} (hB : pq_B pk) (hl : le ≤ 64) (hp : p < 2 ^ 30) (h : post (nI (pq_by pk le p)) (nI le, y_low, y_rng, y_cache, y_pending, nI (p + 1), y_drng, y_dcode, y_dr, y_kb, y_inp, y_encQ, y_encP, y_decQ, y_decP, y_decC, pk, y_vec, y_work, y_vt)) : wpY_nextByte post (nI le, y_low, y_rng, y_cache, y_pending, nI p, y_drng, y_dcode, y_dr, y_kb, y_inp, y_encQ, y_encP, y_decQ, y_decP, y_decC, pk, y_vec, y_work, y_vt) := by
  by_cases c : p < le
  · have ⟨y1, y2⟩ := pq_by_e hB hl c
    refine br_f (nI_ge c (by omega)) ⟨vp_in_nI (by omega) (by decide), ?_⟩
    rw [nI_clamp (by omega), y1]
    exact nm_r (nI_1 p) h
  · have z := pq_by_z (pk := pk) c
    rw [z] at h
    exact br_t (nI_le (by omega) (by omega)) (nm_r (nI_1 p) h)
theorem px_sd19 {post : SX → Prop} (hB : pq_B pk) (hl : le ≤ 64) (h : post (nI le, x_low, x_encoderRange, x_cache, x_pending, nI ((pq_d5 pk le 5)).1, lN ((pq_d5 pk le 5)).2.1, lN ((pq_d5 pk le 5)).2.2, x_decoderStep, x_pulseCounts, x_coefs, x_energies, x_pulses, x_decoded, x_vec, x_sizes, pk)) : ∀ d i, i + d = 5 → wX_startDecoder_19 post (d + 1) (nI i) (nI le) x_low x_encoderRange x_cache x_pending (nI ((pq_d5 pk le i)).1) (lN ((pq_d5 pk le i)).2.1) (lN ((pq_d5 pk le i)).2.2) x_decoderStep x_pulseCounts x_coefs x_energies x_pulses x_decoded x_vec x_sizes pk := by
  intro d
  induction d with
  | zero =>
    intro i hi
    have e : i = 5 := by omega
    subst e
    exact br_t (nI_le (a := 5) (by omega) (by omega)) h
  | succ d ih =>
    intro i hi
    have ⟨a1, _, a3⟩ := pq_d5_s pk le i
    exact br_f (nI_ge (b := 5) (by omega) (by decide)) (px_tk hB hl (by omega) (by omega) (nm_r (nI_1 i) (ih (i + 1) (by omega))))
theorem px_sd {post : SX → Prop} (hB : pq_B pk) (hl : le ≤ 64) (h : post (nI le, x_low, x_encoderRange, x_cache, x_pending, nI ((pq_d5 pk le 5)).1, lN ((pq_d5 pk le 5)).2.1, lN ((pq_d5 pk le 5)).2.2, x_decoderStep, x_pulseCounts, x_coefs, x_energies, x_pulses, x_decoded, x_vec, x_sizes, pk)) : wpX_startDecoder post (nI le, x_low, x_encoderRange, x_cache, x_pending, x_readPosition, x_decoderRange, x_code, x_decoderStep, x_pulseCounts, x_coefs, x_energies, x_pulses, x_decoded, x_vec, x_sizes, pk) :=
  ⟨6, px_sd19 hB hl h 5 0 (by omega)⟩
theorem px_dn {post : SX → Prop} {B : Nat} {d : pq_D} (hB : pq_B pk) (hl : le ≤ 64) (h0 : d.1 ≤ B) (hb : B + 2 < 2 ^ 20) (h2 : 256 ≤ d.2.1) (h3 : d.2.1 < 4294967296) (h4 : d.2.2 < 4294967296) (h : post (nI le, x_low, x_encoderRange, x_cache, x_pending, nI ((pq_dn pk le d)).1, lN ((pq_dn pk le d)).2.1, lN ((pq_dn pk le d)).2.2, x_decoderStep, x_pulseCounts, x_coefs, x_energies, x_pulses, x_decoded, x_vec, x_sizes, pk)) : wX_consume_29 post 3 0 (nI le) x_low x_encoderRange x_cache x_pending (nI d.1) (lN d.2.1) (lN d.2.2) x_decoderStep x_pulseCounts x_coefs x_energies x_pulses x_decoded x_vec x_sizes pk := by
  have ⟨t1, t2, t3⟩ := pq_t1_s pk le d
  have ⟨u1, u2, u3⟩ := pq_t1_s pk le (pq_t1 pk le d)
  unfold pq_dn at h
  refine br_f (by decide) ?_
  by_cases c : d.2.1 < 16777216
  · rw [if_pos c] at h
    refine br_f (by rw [pq_rnge (by omega)]; omega) (nm_r (pq_lm256 _) (px_tk (d := (d.1, d.2.1 * 256, d.2.2)) hB hl (by show d.1 < _; omega) (by show d.2.2 < _; omega) (nm_e ?_)))
    refine br_f (by decide) ?_
    by_cases z : (pq_t1 pk le d).2.1 < 16777216
    · rw [if_pos z] at h
      refine br_f (by show ¬ (16777216 : Int64) ≤ lN (pq_t1 pk le d).2.1; rw [pq_rnge (by omega)]; omega) (nm_r (pq_lm256 _) (px_tk (d := ((pq_t1 pk le d).1, (pq_t1 pk le d).2.1 * 256, (pq_t1 pk le d).2.2)) hB hl (by show (pq_t1 pk le d).1 < _; omega) (by show (pq_t1 pk le d).2.2 < _; omega) (nm_e ?_)))
      refine br_f (by decide) (br_t ?_ h)
      show (16777216 : Int64) ≤ lN (pq_t1 pk le (pq_t1 pk le d)).2.1
      rw [pq_rnge (by omega)]
      omega
    · rw [if_neg z] at h
      refine br_t ?_ h
      show (16777216 : Int64) ≤ lN (pq_t1 pk le d).2.1
      rw [pq_rnge (by omega)]
      omega
  · rw [if_neg c] at h
    exact br_t (by rw [pq_rnge (by omega)]; omega) h
theorem pq_tkY {d : pq_D} (hB : pq_B pk) (hl : le ≤ 64) (hc : d.2.2 < 4294967296) : (lN d.2.2 * 256 + (nI (pq_by pk le d.1)).toInt64) &&& 4294967295 = lN ((d.2.2 * 256 + pq_by pk le d.1) % 4294967296) := by
  have hb := pq_by_lt hB hl d.1
  rw [nI_l (by omega), pq_lm256, lN_add, pq_la32 (by omega)]
theorem py_dn {post : SY → Prop} {B : Nat} {d : pq_D} (hB : pq_B pk) (hl : le ≤ 64) (h0 : d.1 ≤ B) (hb : B + 2 < 2 ^ 20) (h2 : 256 ≤ d.2.1) (h3 : d.2.1 < 4294967296) (h4 : d.2.2 < 4294967296) (h : post (nI le, y_low, y_rng, y_cache, y_pending, nI ((pq_dn pk le d)).1, lN ((pq_dn pk le d)).2.1, lN ((pq_dn pk le d)).2.2, y_dr, y_kb, y_inp, y_encQ, y_encP, y_decQ, y_decP, y_decC, pk, y_vec, y_work, y_vt)) : wY_dtake_28 post 3 0 (nI le) y_low y_rng y_cache y_pending (nI d.1) (lN d.2.1) (lN d.2.2) y_dr y_kb y_inp y_encQ y_encP y_decQ y_decP y_decC pk y_vec y_work y_vt := by
  have ⟨t1, t2, t3⟩ := pq_t1_s pk le d
  have ⟨u1, u2, u3⟩ := pq_t1_s pk le (pq_t1 pk le d)
  unfold pq_dn at h
  refine br_f (by decide) ?_
  by_cases c : d.2.1 < 16777216
  · rw [if_pos c] at h
    refine br_f (by rw [pq_rnge (by omega)]; omega) (nm_r (pq_lm256 _) (py_nb hB hl (by omega) (nm_r (pq_tkY hB hl h4) (nm_e ?_))))
    refine br_f (by decide) ?_
    by_cases z : (pq_t1 pk le d).2.1 < 16777216
    · rw [if_pos z] at h
      refine br_f (by show ¬ (16777216 : Int64) ≤ lN (pq_t1 pk le d).2.1; rw [pq_rnge (by omega)]; omega) (nm_r (pq_lm256 _) (py_nb (p := (pq_t1 pk le d).1) hB hl (by omega) (nm_r (pq_tkY (d := pq_t1 pk le d) hB hl t3) (nm_e ?_))))
      refine br_f (by decide) (br_t ?_ h)
      show (16777216 : Int64) ≤ lN (pq_t1 pk le (pq_t1 pk le d)).2.1
      rw [pq_rnge (by omega)]
      omega
    · rw [if_neg z] at h
      refine br_t ?_ h
      show (16777216 : Int64) ≤ lN (pq_t1 pk le d).2.1
      rw [pq_rnge (by omega)]
      omega
  · rw [if_neg c] at h
    exact br_t (by rw [pq_rnge (by omega)]; omega) h
theorem px_dc {post : SX → Prop} {B : Nat} {d : pq_D} {total start size : Nat} {p0 p1 : Int32} (hB : pq_B pk) (hl : le ≤ 64) (hD : pq_DI B d) (hb : B + 2 < 2 ^ 20) (h0 : 1 ≤ total) (h1 : total ≤ 65536) (h2 : 1 ≤ size) (h3 : size ≤ total) (hs : start ≤ pq_dv d total) (hs2 : start < 65536) (e0 : p0 = nI start) (e1 : p1 = nI size) (h : post (nI le, x_low, x_encoderRange, x_cache, x_pending, nI ((pq_dc pk le d total start size)).1, lN ((pq_dc pk le d total start size)).2.1, lN ((pq_dc pk le d total start size)).2.2, lN (d.2.1 / total), x_pulseCounts, x_coefs, x_energies, x_pulses, x_decoded, x_vec, x_sizes, pk)) : wpX_consume post (nI le, x_low, x_encoderRange, x_cache, x_pending, nI d.1, lN d.2.1, lN d.2.2, lN (d.2.1 / total), x_pulseCounts, x_coefs, x_energies, x_pulses, x_decoded, x_vec, x_sizes, pk) p0 p1 := by
  subst e0 e1
  have ⟨a, b, c, e⟩ := pq_d0_s (start := start) hD h0 h1 h2 h3
  have m := pq_dv_m hs
  refine nm_r (e' := lN (d.2.2 - d.2.1 / total * start)) (by rw [nI_l (by omega), lN_mul, lN_sub m]) (nm_r (e' := lN (d.2.1 / total * size)) (by rw [nI_l (by omega), lN_mul]) ⟨3, ?_⟩)
  exact px_dn (d := pq_d0 d total start size) hB hl a hb b c e h
theorem py_dc {post : SY → Prop} {B : Nat} {d : pq_D} {total start size : Nat} {p0 p1 : Int64} (hB : pq_B pk) (hl : le ≤ 64) (hD : pq_DI B d) (hb : B + 2 < 2 ^ 20) (h0 : 1 ≤ total) (h1 : total ≤ 65536) (h2 : 1 ≤ size) (h3 : size ≤ total) (hs : start ≤ pq_dv d total) (e0 : p0 = lN start) (e1 : p1 = lN size) (h : post (nI le, y_low, y_rng, y_cache, y_pending, nI ((pq_dc pk le d total start size)).1, lN ((pq_dc pk le d total start size)).2.1, lN ((pq_dc pk le d total start size)).2.2, lN (d.2.1 / total), y_kb, y_inp, y_encQ, y_encP, y_decQ, y_decP, y_decC, pk, y_vec, y_work, y_vt)) : wpY_dtake post (nI le, y_low, y_rng, y_cache, y_pending, nI d.1, lN d.2.1, lN d.2.2, lN (d.2.1 / total), y_kb, y_inp, y_encQ, y_encP, y_decQ, y_decP, y_decC, pk, y_vec, y_work, y_vt) p0 p1 := by
  subst e0 e1
  have ⟨a, b, c, e⟩ := pq_d0_s (start := start) hD h0 h1 h2 h3
  have m := pq_dv_m hs
  refine nm_r (e' := lN (d.2.2 - d.2.1 / total * start)) (by rw [lN_mul, lN_sub m]) (nm_r (e' := lN (d.2.1 / total * size)) (by rw [lN_mul]) ⟨3, ?_⟩)
  exact py_dn (d := pq_d0 d total start size) hB hl a hb b c e h
theorem px_dv {post : Int32 → SX → Prop} {B : Nat} {d : pq_D} {total : Nat} {p0 : Int32} (hD : pq_DI B d) (h0 : 1 ≤ total) (h1 : total ≤ 65536) (e0 : p0 = nI total) (h : post (nI (pq_dv d total)) (x_length, x_low, x_encoderRange, x_cache, x_pending, nI d.1, lN d.2.1, lN d.2.2, lN (d.2.1 / total), x_pulseCounts, x_coefs, x_energies, x_pulses, x_decoded, x_vec, x_sizes, x_packet)) : wpX_decodeValue post (x_length, x_low, x_encoderRange, x_cache, x_pending, nI d.1, lN d.2.1, lN d.2.2, x_decoderStep, x_pulseCounts, x_coefs, x_energies, x_pulses, x_decoded, x_vec, x_sizes, x_packet) p0 := by
  subst e0
  obtain ⟨d0, d1, d2, d3⟩ := hD
  have ⟨q1, q2⟩ := pq_r d1 h0 h1
  have q3 : d.2.1 / total ≤ d.2.1 := Nat.div_le_self _ _
  have q4 : d.2.2 / (d.2.1 / total) ≤ d.2.2 := Nat.div_le_self _ _
  have et : (nI total - 1).toInt64 = lN (total - 1) := by rw [show (1 : Int32) = nI 1 from rfl, pk_sub h0, nI_l (by omega)]
  unfold wpX_decodeValue
  dsimp only
  refine px_quo (a := d.2.1) (b := total) rfl (nI_l (by omega)) (by omega) h0 (by omega) (px_quo (a := d.2.2) (b := d.2.1 / total) rfl rfl (by omega) (by omega) (by omega) ?_)
  unfold pq_dv at h
  rw [et]
  by_cases c : total - 1 < d.2.2 / (d.2.1 / total)
  · rw [if_pos c] at h
    refine br_f (by rw [pk_lLE (by omega) (by omega)]; omega) ?_
    rw [lN_i]
    exact h
  · rw [if_neg c] at h
    refine br_t (by rw [pk_lLE (by omega) (by omega)]; omega) ?_
    rw [lN_i]
    exact h
theorem py_dv {post : Int32 → SY → Prop} {B : Nat} {d : pq_D} {total : Nat} {p0 : Int64} (hD : pq_DI B d) (h0 : 1 ≤ total) (h1 : total ≤ 65536) (e0 : p0 = lN total) (h : post (nI (pq_dv d total)) (y_pktLen, y_low, y_rng, y_cache, y_pending, nI d.1, lN d.2.1, lN d.2.2, lN (d.2.1 / total), y_kb, y_inp, y_encQ, y_encP, y_decQ, y_decP, y_decC, y_pkt, y_vec, y_work, y_vt)) : wpY_dget post (y_pktLen, y_low, y_rng, y_cache, y_pending, nI d.1, lN d.2.1, lN d.2.2, y_dr, y_kb, y_inp, y_encQ, y_encP, y_decQ, y_decP, y_decC, y_pkt, y_vec, y_work, y_vt) p0 := by
  subst e0
  obtain ⟨d0, d1, d2, d3⟩ := hD
  have ⟨q1, q2⟩ := pq_r d1 h0 h1
  have q3 : d.2.1 / total ≤ d.2.1 := Nat.div_le_self _ _
  have q4 : d.2.2 / (d.2.1 / total) ≤ d.2.2 := Nat.div_le_self _ _
  have et : lN total - 1 = lN (total - 1) := by rw [show (1 : Int64) = lN 1 from rfl, lN_sub h0]
  refine ⟨pq_ln0 h0 (by omega), nm_r (pk_lDiv (by omega) h0 (by omega)) (br_t (pq_l1 (by omega) (by omega)) ⟨pq_ln0 (by omega) (by omega), nm_r (pk_lDiv (by omega) (by omega) (by omega)) ?_⟩)⟩
  unfold pq_dv at h
  rw [et]
  by_cases c : total - 1 < d.2.2 / (d.2.1 / total)
  · rw [if_pos c] at h
    refine br_f (by rw [pk_lLE (by omega) (by omega)]; omega) (nm_e ?_)
    rw [lN_i]
    exact h
  · rw [if_neg c] at h
    refine br_t (by rw [pk_lLE (by omega) (by omega)]; omega) ?_
    rw [lN_i]
    exact h
theorem px_du {post : Int32 → SX → Prop} {B : Nat} {d : pq_D} {total : Nat} {p0 : Int32} (hB : pq_B pk) (hl : le ≤ 64) (hD : pq_DI B d) (hb : B + 2 < 2 ^ 20) (h0 : 1 ≤ total) (h1 : total ≤ 65536) (e0 : p0 = nI total) (h : post (nI (pq_dv d total)) (nI le, x_low, x_encoderRange, x_cache, x_pending, nI ((pq_dc pk le d total (pq_dv d total) 1)).1, lN ((pq_dc pk le d total (pq_dv d total) 1)).2.1, lN ((pq_dc pk le d total (pq_dv d total) 1)).2.2, lN (d.2.1 / total), x_pulseCounts, x_coefs, x_energies, x_pulses, x_decoded, x_vec, x_sizes, pk)) : wpX_decodeUniform post (nI le, x_low, x_encoderRange, x_cache, x_pending, nI d.1, lN d.2.1, lN d.2.2, x_decoderStep, x_pulseCounts, x_coefs, x_energies, x_pulses, x_decoded, x_vec, x_sizes, pk) p0 := by
  subst e0
  have v := pq_dv_lt (d := d) h0
  unfold wpX_decodeUniform
  dsimp only
  refine px_dv hD h0 h1 rfl ?_
  exact px_dc hB hl hD hb h0 h1 (by omega) h0 (Nat.le_refl _) (by omega) rfl rfl h
theorem px_49 {post : Int32 → SX → Prop} {B s : Nat} {d : pq_D} (hB : pq_B pk) (hl : le ≤ 64) (hD : pq_DI B d) (hb : B + 2 < 2 ^ 20) (hs : s = pq_ds d) (h : post (pq_rs s) (nI le, x_low, x_encoderRange, x_cache, x_pending, nI ((pq_de pk le d)).1, lN ((pq_de pk le d)).2.1, lN ((pq_de pk le d)).2.2, lN (d.2.1 / 150), x_pulseCounts, x_coefs, x_energies, x_pulses, x_decoded, x_vec, x_sizes, pk)) : wX_decodeEnergy_49 post (nI s) (nI (pq_st s)) (nI (pq_f s)) (nI le) x_low x_encoderRange x_cache x_pending (nI d.1) (lN d.2.1) (lN d.2.2) (lN (d.2.1 / 150)) x_pulseCounts x_coefs x_energies x_pulses x_decoded x_vec x_sizes pk := by
  have ⟨s1, s2, s3⟩ := pq_ds_s d
  have ⟨a1, a2, a3⟩ := pq_f_s (pq_ds d) (by omega)
  subst hs
  unfold wX_decodeEnergy_49
  refine px_dc (total := 150) hB hl hD hb (by decide) (by decide) a2 (by omega) s1 (by omega) rfl rfl ⟨by decide, ?_⟩
  unfold pq_rs at h
  by_cases c : nI (pq_ds d) - nI (pq_ds d) / 2 * 2 = 0
  · rw [if_pos c] at h
    exact br_t c ⟨by decide, h⟩
  · rw [if_neg c] at h
    exact br_f c ⟨by decide, h⟩
theorem px_18 {post : Int32 → SX → Prop} {B : Nat} {d : pq_D} (hB : pq_B pk) (hl : le ≤ 64) (hD : pq_DI B d) (hb : B + 2 < 2 ^ 20) (h : post (pq_rs (pq_ds d)) (nI le, x_low, x_encoderRange, x_cache, x_pending, nI ((pq_de pk le d)).1, lN ((pq_de pk le d)).2.1, lN ((pq_de pk le d)).2.2, lN (d.2.1 / 150), x_pulseCounts, x_coefs, x_energies, x_pulses, x_decoded, x_vec, x_sizes, pk)) : ∀ t i, i + t = pq_ds d → wX_decodeEnergy_18 post (nI (pq_dv d 150)) (nI le) x_low x_encoderRange x_cache x_pending (nI d.1) (lN d.2.1) (lN d.2.2) (lN (d.2.1 / 150)) x_pulseCounts x_coefs x_energies x_pulses x_decoded x_vec x_sizes pk (t + 1) (nI i) (nI (pq_st i)) (nI (pq_f i)) := by
  have ⟨s1, s2, s3⟩ := pq_ds_s d
  have v := pq_dv_lt (d := d) (total := 150) (by decide)
  intro t
  induction t with
  | zero =>
    intro i hi
    have e : i = pq_ds d := by omega
    by_cases c : 66 ≤ i
    · refine br_t (nI_le (a := 66) c (by omega)) ?_
      exact px_49 hB hl hD hb e (by rw [e]; exact h)
    · refine br_f (nI_ge (b := 66) (by omega) (by decide)) (br_t ?_ ?_)
      · rw [nI_add]
        refine nI_lt ?_ ?_
        · rw [e]; exact s2
        · have := (pq_f_s i (by omega)).1
          omega
      · exact px_49 hB hl hD hb e (by rw [e]; exact h)
  | succ t ih =>
    intro i hi
    have m : pq_st (i + 1) ≤ pq_st (pq_ds d) := pq_S_mono pq_f (by omega)
    refine br_f (nI_ge (b := 66) (by omega) (by decide)) (br_f ?_ (nm_r (nI_add _ _) (nm_r (nI_1 i) (px_sym (s := i + 1) rfl (by omega) ?_))))
    · rw [nI_add]
      refine nI_nlt ?_ (by omega)
      show pq_st (i + 1) ≤ _
      omega
    · exact ih (i + 1) (by omega)
theorem px_de {post : Int32 → SX → Prop} {B : Nat} {d : pq_D} (hB : pq_B pk) (hl : le ≤ 64) (hD : pq_DI B d) (hb : B + 2 < 2 ^ 20) (h : post (pq_rs (pq_ds d)) (nI le, x_low, x_encoderRange, x_cache, x_pending, nI ((pq_de pk le d)).1, lN ((pq_de pk le d)).2.1, lN ((pq_de pk le d)).2.2, lN (d.2.1 / 150), x_pulseCounts, x_coefs, x_energies, x_pulses, x_decoded, x_vec, x_sizes, pk)) : wpX_decodeEnergy post (nI le, x_low, x_encoderRange, x_cache, x_pending, nI d.1, lN d.2.1, lN d.2.2, x_decoderStep, x_pulseCounts, x_coefs, x_energies, x_pulses, x_decoded, x_vec, x_sizes, pk) := by
  unfold wpX_decodeEnergy
  dsimp only
  refine px_dv (total := 150) hD (by decide) (by decide) rfl (px_sym (s := 0) rfl (by decide) ⟨pq_ds d + 1, ?_⟩)
  exact px_18 hB hl hD hb h (pq_ds d) 0 (by omega)
end PQD
end
section
/-! the index of a vector -/
section PQI
variable {x_length x_cache x_pending x_readPosition : Int32} {x_low x_encoderRange x_decoderRange x_code x_decoderStep : Int64} {x_pulseCounts x_coefs x_energies x_pulses x_decoded x_vec x_sizes x_packet : Nat → Int32}
variable {y_pktLen y_pending y_rpos : Int32} {y_low y_rng y_cache y_drng y_dcode y_dr : Int64} {y_kb y_inp y_encQ y_encP y_decQ y_decP y_decC y_pkt y_vec y_work y_vt : Nat → Int32}
theorem px_pulses34 {post : Int32 → Prop} {J : Int32 → Int32 → Int32 → Prop} {x2 v : Int32} {n i k A : Nat} (ht : pq_tb x_sizes) (hn : i + n < 8) (hk : k ≤ 16) (hv : pq_mg v ≤ k)
    (h : J (nI (A + pq_W n k (pq_mg v) + (if v < 0 then pq_V n (k - pq_mg v) else 0))) (nI (k - pq_mg v)) (nI (i + 1))) : ∀ d j, j + d = pq_mg v →
    wX_indexOf__pulses_34 post J x2 (nI (i + n + 1)) (nI k) (nI i) v (nI (pq_mg v)) x_length x_low x_encoderRange x_cache x_pending x_readPosition x_decoderRange x_code x_decoderStep x_pulseCounts x_coefs x_energies x_pulses x_decoded x_vec x_sizes x_packet (d + 1) (nI (A + pq_W n k j)) (nI j) := by
  intro d
  induction d with
  | zero =>
    intro j hj
    have e : j = pq_mg v := by omega
    subst e
    refine br_t (nI_le (Nat.le_refl _) (by omega)) (nm_r (pk_sub hv) ?_)
    by_cases c : v < 0
    · rw [if_pos c] at h
      refine br_f (pq_nle0 c) (px_size (n := n) (k := k - pq_mg v) ht (by omega) (by omega) ?_ rfl (nm_r (nI_add _ _) (nm_r (nI_1 i) h)))
      rw [pk_sub (by omega), show i + n + 1 - i = n + 1 by omega, nI_pred]
    · rw [if_neg c] at h
      exact br_t (pq_nlt0 c) (nm_r (nI_1 i) h)
  | succ d ih =>
    intro j hj
    refine br_f (nI_ge (by omega) (by omega)) (px_cwf (m := j) (n := n) (k := k) ht (by omega) (by omega) hk rfl ?_ rfl (nm_r ?_ (nm_r (nI_1 j) (ih (j + 1) (by omega)))))
    · rw [pk_sub (by omega), show i + n + 1 - i = n + 1 by omega]
    · rw [nI_add, Nat.add_assoc]; rfl
theorem px_pulses10 {post : Int32 → Prop} {fr n0 : Nat} (ht : pq_tb x_sizes) (hn : n0 ≤ 8) (hf : fr + n0 ≤ 64) : ∀ d i A k, i + d = n0 → k ≤ 16 → pq_M (fun j => x_pulses (fr + j)) i d = k → post (nI (A + pq_ix (fun j => x_pulses (fr + j)) i d k)) →
    wX_indexOf__pulses_10 post (nI fr) (nI n0) x_length x_low x_encoderRange x_cache x_pending x_readPosition x_decoderRange x_code x_decoderStep x_pulseCounts x_coefs x_energies x_pulses x_decoded x_vec x_sizes x_packet (d + 1) (nI A) (nI k) (nI i) := by
  intro d
  induction d with
  | zero =>
    intro i A k hi hk hm h
    exact br_t (nI_le (by omega) (by omega)) h
  | succ d ih =>
    intro i A k hi hk hm h
    have hm2 : pq_mg (x_pulses (fr + i)) + pq_M (fun j => x_pulses (fr + j)) (i + 1) d = k := hm
    have hn0 : n0 = i + d + 1 := by omega
    subst hn0
    refine br_f (nI_ge (by omega) (by omega)) ⟨pk_in (fr + i) 64 (by omega) (nI_add fr i), nm_r (e' := x_pulses (fr + i)) (by rw [nI_add, nI_clamp (by omega)]) (px_mag ⟨pq_mg (x_pulses (fr + i)) + 1, ?_⟩)⟩
    refine px_pulses34 (A := A) (n := d) ht (by omega) hk (by omega) ?_ (pq_mg (x_pulses (fr + i))) 0 (by omega)
    refine ih (i + 1) _ (k - pq_mg (x_pulses (fr + i))) (by omega) (by omega) (by omega) ?_
    have e : A + pq_ix (fun j => x_pulses (fr + j)) i (d + 1) k = A + pq_W d k (pq_mg (x_pulses (fr + i))) + (if x_pulses (fr + i) < 0 then pq_V d (k - pq_mg (x_pulses (fr + i))) else 0) + pq_ix (fun j => x_pulses (fr + j)) (i + 1) d (k - pq_mg (x_pulses (fr + i))) := by
      show A + (pq_W d k (pq_mg (x_pulses (fr + i))) + (if x_pulses (fr + i) < 0 then pq_V d (k - pq_mg (x_pulses (fr + i))) else 0) + pq_ix (fun j => x_pulses (fr + j)) (i + 1) d (k - pq_mg (x_pulses (fr + i)))) = _
      omega
    rw [e] at h
    exact h
theorem px_pulsesix {post : Int32 → Prop} {fr n k : Nat} {p1 p2 p3 : Int32} (ht : pq_tb x_sizes) (hn : n ≤ 8) (hf : fr + n ≤ 64) (hk : k ≤ 16) (hm : pq_M (fun j => x_pulses (fr + j)) 0 n = k) (e1 : p1 = nI fr) (e2 : p2 = nI n) (e3 : p3 = nI k) (h : post (nI (pq_ix (fun j => x_pulses (fr + j)) 0 n k))) : wpX_indexOf__pulses post (x_length, x_low, x_encoderRange, x_cache, x_pending, x_readPosition, x_decoderRange, x_code, x_decoderStep, x_pulseCounts, x_coefs, x_energies, x_pulses, x_decoded, x_vec, x_sizes, x_packet) p1 p2 p3 := by
  subst e1 e2 e3
  refine ⟨n + 1, px_pulses10 ht hn hf n 0 0 k (by omega) hk hm ?_⟩
  rw [Nat.zero_add]
  exact h
theorem px_vec34 {post : Int32 → Prop} {J : Int32 → Int32 → Int32 → Prop} {x2 v : Int32} {n i k A : Nat} (ht : pq_tb x_sizes) (hn : i + n < 8) (hk : k ≤ 16) (hv : pq_mg v ≤ k)
    (h : J (nI (A + pq_W n k (pq_mg v) + (if v < 0 then pq_V n (k - pq_mg v) else 0))) (nI (k - pq_mg v)) (nI (i + 1))) : ∀ d j, j + d = pq_mg v →
    wX_indexOf__vec_34 post J x2 (nI (i + n + 1)) (nI k) (nI i) v (nI (pq_mg v)) x_length x_low x_encoderRange x_cache x_pending x_readPosition x_decoderRange x_code x_decoderStep x_pulseCounts x_coefs x_energies x_pulses x_decoded x_vec x_sizes x_packet (d + 1) (nI (A + pq_W n k j)) (nI j) := by
  intro d
  induction d with
  | zero =>
    intro j hj
    have e : j = pq_mg v := by omega
    subst e
    refine br_t (nI_le (Nat.le_refl _) (by omega)) (nm_r (pk_sub hv) ?_)
    by_cases c : v < 0
    · rw [if_pos c] at h
      refine br_f (pq_nle0 c) (px_size (n := n) (k := k - pq_mg v) ht (by omega) (by omega) ?_ rfl (nm_r (nI_add _ _) (nm_r (nI_1 i) h)))
      rw [pk_sub (by omega), show i + n + 1 - i = n + 1 by omega, nI_pred]
    · rw [if_neg c] at h
      exact br_t (pq_nlt0 c) (nm_r (nI_1 i) h)
  | succ d ih =>
    intro j hj
    refine br_f (nI_ge (by omega) (by omega)) (px_cwf (m := j) (n := n) (k := k) ht (by omega) (by omega) hk rfl ?_ rfl (nm_r ?_ (nm_r (nI_1 j) (ih (j + 1) (by omega)))))
    · rw [pk_sub (by omega), show i + n + 1 - i = n + 1 by omega]
    · rw [nI_add, Nat.add_assoc]; rfl
theorem px_vec10 {post : Int32 → Prop} {fr n0 : Nat} (ht : pq_tb x_sizes) (hn : n0 ≤ 8) (hf : fr + n0 ≤ 8) : ∀ d i A k, i + d = n0 → k ≤ 16 → pq_M (fun j => x_vec (fr + j)) i d = k → post (nI (A + pq_ix (fun j => x_vec (fr + j)) i d k)) →
    wX_indexOf__vec_10 post (nI fr) (nI n0) x_length x_low x_encoderRange x_cache x_pending x_readPosition x_decoderRange x_code x_decoderStep x_pulseCounts x_coefs x_energies x_pulses x_decoded x_vec x_sizes x_packet (d + 1) (nI A) (nI k) (nI i) := by
  intro d
  induction d with
  | zero =>
    intro i A k hi hk hm h
    exact br_t (nI_le (by omega) (by omega)) h
  | succ d ih =>
    intro i A k hi hk hm h
    have hm2 : pq_mg (x_vec (fr + i)) + pq_M (fun j => x_vec (fr + j)) (i + 1) d = k := hm
    have hn0 : n0 = i + d + 1 := by omega
    subst hn0
    refine br_f (nI_ge (by omega) (by omega)) ⟨pk_in (fr + i) 8 (by omega) (nI_add fr i), nm_r (e' := x_vec (fr + i)) (by rw [nI_add, nI_clamp (by omega)]) (px_mag ⟨pq_mg (x_vec (fr + i)) + 1, ?_⟩)⟩
    refine px_vec34 (A := A) (n := d) ht (by omega) hk (by omega) ?_ (pq_mg (x_vec (fr + i))) 0 (by omega)
    refine ih (i + 1) _ (k - pq_mg (x_vec (fr + i))) (by omega) (by omega) (by omega) ?_
    have e : A + pq_ix (fun j => x_vec (fr + j)) i (d + 1) k = A + pq_W d k (pq_mg (x_vec (fr + i))) + (if x_vec (fr + i) < 0 then pq_V d (k - pq_mg (x_vec (fr + i))) else 0) + pq_ix (fun j => x_vec (fr + j)) (i + 1) d (k - pq_mg (x_vec (fr + i))) := by
      show A + (pq_W d k (pq_mg (x_vec (fr + i))) + (if x_vec (fr + i) < 0 then pq_V d (k - pq_mg (x_vec (fr + i))) else 0) + pq_ix (fun j => x_vec (fr + j)) (i + 1) d (k - pq_mg (x_vec (fr + i)))) = _
      omega
    rw [e] at h
    exact h
theorem px_vecix {post : Int32 → Prop} {fr n k : Nat} {p1 p2 p3 : Int32} (ht : pq_tb x_sizes) (hn : n ≤ 8) (hf : fr + n ≤ 8) (hk : k ≤ 16) (hm : pq_M (fun j => x_vec (fr + j)) 0 n = k) (e1 : p1 = nI fr) (e2 : p2 = nI n) (e3 : p3 = nI k) (h : post (nI (pq_ix (fun j => x_vec (fr + j)) 0 n k))) : wpX_indexOf__vec post (x_length, x_low, x_encoderRange, x_cache, x_pending, x_readPosition, x_decoderRange, x_code, x_decoderStep, x_pulseCounts, x_coefs, x_energies, x_pulses, x_decoded, x_vec, x_sizes, x_packet) p1 p2 p3 := by
  subst e1 e2 e3
  refine ⟨n + 1, px_vec10 ht hn hf n 0 0 k (by omega) hk hm ?_⟩
  rw [Nat.zero_add]
  exact h
theorem py_97 {post : Int32 → Prop} {J : Int32 → Int32 → Int32 → Prop} {v : Int32} {n i k A : Nat} (ht : pq_tb y_vt) (hn : i + n < 8) (hk : k ≤ 16) (hv : pq_mg v ≤ k)
    (h : J (nI (A + (if v < 0 then pq_V n (k - pq_mg v) else 0))) (nI (k - pq_mg v)) (nI (i + 1))) :
    wY_indexOf_97 post J (nI (i + n + 1)) (nI A) (nI k) (nI i) v (nI (pq_mg v)) y_pktLen y_low y_rng y_cache y_pending y_rpos y_drng y_dcode y_dr y_kb y_inp y_encQ y_encP y_decQ y_decP y_decC y_pkt y_vec y_work y_vt := by
  by_cases c : v < 0
  · rw [if_pos c] at h
    refine br_f (pq_nle0 c) (py_vv (n := n) (k := k - pq_mg v) ht (by omega) (by omega) ?_ (pk_sub hv) (nm_r (nI_add _ _) (nm_r (pk_sub hv) (nm_r (nI_1 i) h))))
    rw [pk_sub (by omega), show i + n + 1 - i = n + 1 by omega, nI_pred]
  · rw [if_neg c] at h
    exact br_t (pq_nlt0 c) (nm_r (pk_sub hv) (nm_r (nI_1 i) h))
theorem py_48 {post : Int32 → Prop} {J : Int32 → Int32 → Int32 → Prop} {v : Int32} {n i k A : Nat} (ht : pq_tb y_vt) (hn : i + n < 8) (hk : k ≤ 16) (hv : pq_mg v ≤ k)
    (h : J (nI (A + pq_W n k (pq_mg v) + (if v < 0 then pq_V n (k - pq_mg v) else 0))) (nI (k - pq_mg v)) (nI (i + 1))) : ∀ d j, j + d = pq_mg v →
    wY_indexOf_48 post J (nI (i + n + 1)) (nI k) (nI i) v (nI (pq_mg v)) y_pktLen y_low y_rng y_cache y_pending y_rpos y_drng y_dcode y_dr y_kb y_inp y_encQ y_encP y_decQ y_decP y_decC y_pkt y_vec y_work y_vt (d + 1) (nI (A + pq_W n k j)) (nI j) := by
  intro d
  induction d with
  | zero =>
    intro j hj
    have e : j = pq_mg v := by omega
    subst e
    exact br_t (nI_le (Nat.le_refl _) (by omega)) (py_97 ht hn hk hv h)
  | succ d ih =>
    intro j hj
    have e1 : nI (i + n + 1) - nI i - 1 = nI n := by
      rw [pk_sub (by omega), show i + n + 1 - i = n + 1 by omega, nI_pred]
    refine br_f (nI_ge (by omega) (by omega)) (br_f (nI_nlt (a := 16) (by omega) (by decide)) ?_)
    by_cases z : j = 0
    · refine br_t (by rw [z]; rfl) (py_vv (n := n) (k := k - j) ht (by omega) (by omega) e1 (pk_sub (by omega)) (nm_r ?_ (nm_r (nI_1 j) (ih (j + 1) (by omega)))))
      rw [show (1 : Int32) = nI 1 from rfl, pk_mul, nI_add, Nat.add_assoc]
      show _ = nI (A + (pq_W n k j + (if j = 0 then 1 else 2) * pq_V n (k - j)))
      rw [if_pos z]
    · refine br_f (nI_ne0 (by omega) (by omega)) (py_vv (n := n) (k := k - j) ht (by omega) (by omega) e1 (pk_sub (by omega)) (nm_r ?_ (nm_r (nI_1 j) (ih (j + 1) (by omega)))))
      rw [pq_2i, nI_add, Nat.add_assoc]
      show _ = nI (A + (pq_W n k j + (if j = 0 then 1 else 2) * pq_V n (k - j)))
      rw [if_neg z]
theorem py_8 {post : Int32 → Prop} {n0 : Nat} (ht : pq_tb y_vt) (hn : n0 ≤ 8) : ∀ d i A k, i + d = n0 → k ≤ 16 → pq_M y_work i d = k → post (nI (A + pq_ix y_work i d k)) →
    wY_indexOf_8 post (nI n0) y_pktLen y_low y_rng y_cache y_pending y_rpos y_drng y_dcode y_dr y_kb y_inp y_encQ y_encP y_decQ y_decP y_decC y_pkt y_vec y_work y_vt (d + 1) (nI A) (nI k) (nI i) := by
  intro d
  induction d with
  | zero =>
    intro i A k hi hk hm h
    exact br_t (nI_le (by omega) (by omega)) h
  | succ d ih =>
    intro i A k hi hk hm h
    have hm2 : pq_mg (y_work i) + pq_M y_work (i + 1) d = k := hm
    have hn0 : n0 = i + d + 1 := by omega
    subst hn0
    have e : A + pq_ix y_work i (d + 1) k = A + pq_W d k (pq_mg (y_work i)) + (if y_work i < 0 then pq_V d (k - pq_mg (y_work i)) else 0) + pq_ix y_work (i + 1) d (k - pq_mg (y_work i)) := by
      show A + (pq_W d k (pq_mg (y_work i)) + (if y_work i < 0 then pq_V d (k - pq_mg (y_work i)) else 0) + pq_ix y_work (i + 1) d (k - pq_mg (y_work i))) = _
      omega
    rw [e] at h
    have K := py_48 (post := post) (J := wY_indexOf_8 post (nI (i + d + 1)) y_pktLen y_low y_rng y_cache y_pending y_rpos y_drng y_dcode y_dr y_kb y_inp y_encQ y_encP y_decQ y_decP y_decC y_pkt y_vec y_work y_vt (d + 1)) (v := y_work i) (n := d) (i := i) (k := k) (A := A) (y_pktLen := y_pktLen) (y_low := y_low) (y_rng := y_rng) (y_cache := y_cache) (y_pending := y_pending) (y_rpos := y_rpos) (y_drng := y_drng) (y_dcode := y_dcode) (y_dr := y_dr) (y_kb := y_kb) (y_inp := y_inp) (y_encQ := y_encQ) (y_encP := y_encP) (y_decQ := y_decQ) (y_decP := y_decP) (y_decC := y_decC) (y_pkt := y_pkt) (y_vec := y_vec) (y_work := y_work) (y_vt := y_vt) ht (by omega) hk (by omega) (ih (i + 1) _ (k - pq_mg (y_work i)) (by omega) (by omega) (by omega) h) (pq_mg (y_work i)) 0 (by omega)
    refine br_f (nI_ge (by omega) (by omega)) (br_f (nI_ge (b := 8) (by omega) (by decide)) ⟨vp_in_nI (by omega) (by decide), nm_r (e' := y_work i) (by rw [nI_clamp (by omega)]) ?_⟩)
    by_cases c : y_work i < 0
    · exact br_f (pq_nle0 c) (nm_r (pq_mg_n c) ⟨pq_mg (y_work i) + 1, K⟩)
    · refine br_t (pq_nlt0 c) ⟨pq_mg (y_work i) + 1, ?_⟩
      have e2 := pq_mg_p c
      have K2 : ∀ z, z = nI (pq_mg (y_work i)) → wY_indexOf_48 post (wY_indexOf_8 post (nI (i + d + 1)) y_pktLen y_low y_rng y_cache y_pending y_rpos y_drng y_dcode y_dr y_kb y_inp y_encQ y_encP y_decQ y_decP y_decC y_pkt y_vec y_work y_vt (d + 1)) (nI (i + d + 1)) (nI k) (nI i) (y_work i) z y_pktLen y_low y_rng y_cache y_pending y_rpos y_drng y_dcode y_dr y_kb y_inp y_encQ y_encP y_decQ y_decP y_decC y_pkt y_vec y_work y_vt (pq_mg (y_work i) + 1) (nI A) 0 := by
        intro z hz
        rw [hz]
        exact K
      exact K2 _ e2
theorem py_ix {post : Int32 → Prop} {n k : Nat} {p1 p2 : Int32} (ht : pq_tb y_vt) (hn : n ≤ 8) (hk : k ≤ 16) (hm : pq_M y_work 0 n = k) (e1 : p1 = nI n) (e2 : p2 = nI k) (h : post (nI (pq_ix y_work 0 n k))) : wpY_indexOf post (y_pktLen, y_low, y_rng, y_cache, y_pending, y_rpos, y_drng, y_dcode, y_dr, y_kb, y_inp, y_encQ, y_encP, y_decQ, y_decP, y_decC, y_pkt, y_vec, y_work, y_vt) p1 p2 := by
  subst e1 e2
  refine ⟨n + 1, py_8 ht hn n 0 0 k (by omega) hk hm ?_⟩
  rw [Nat.zero_add]
  exact h
end PQI
end
section
/-! an index taken apart -/
theorem pq_cn_le {n k m : Nat} (hn : n ≤ 8) (hk : k ≤ 16) : (if m = 0 then 1 else 2) * pq_V n (k - m) ≤ 30316544 := by
  have := pq_Vle (n := n) (k := k - m) hn (by omega)
  split <;> omega
section PQU
variable {x_length x_cache x_pending x_readPosition : Int32} {x_low x_encoderRange x_decoderRange x_code x_decoderStep : Int64} {x_pulseCounts x_coefs x_energies x_pulses x_decoded x_vec x_sizes x_packet : Nat → Int32}
variable {y_pktLen y_pending y_rpos : Int32} {y_low y_rng y_cache y_drng y_dcode y_dr : Int64} {y_kb y_inp y_encQ y_encP y_decQ y_decP y_decC y_pkt y_vec y_work y_vt : Nat → Int32}
theorem px_pulses74 {post : SX → Prop} {J : Int32 → Int32 → Int32 → (Nat → Int32) → (Nat → Int32) → (Nat → Int32) → (Nat → Int32) → (Nat → Int32) → (Nat → Int32) → (Nat → Int32) → (Nat → Int32) → Prop} {fr i n k r : Nat} (ht : pq_tb x_sizes) (hn : i + n < 8) (hf : fr + i < 64) (hk : k ≤ 16) (hr : r < pq_V (n + 1) k)
    (h : J (nI (pq_ur n k r)) (nI (k - pq_fm n k r)) (nI (i + 1)) x_pulseCounts x_coefs x_energies (upd x_pulses (fr + i) (pq_uy n k r)) x_decoded x_vec x_sizes x_packet) :
    wX_unindex__pulses_74 post J (nI fr) (nI (i + n + 1)) (nI (r - pq_W n k (pq_fm n k r))) (nI k) (nI i) (nI (pq_fm n k r)) x_length x_low x_encoderRange x_cache x_pending x_readPosition x_decoderRange x_code x_decoderStep x_pulseCounts x_coefs x_energies x_pulses x_decoded x_vec x_sizes x_packet := by
  have ⟨f1, f2, f3⟩ := pq_fm_s (by omega) hk hr
  have hV := pq_Vle (n := n) (k := k - pq_fm n k r) (by omega) (by omega)
  have hR := pq_Vle (n := n + 1) (k := k) (by omega) hk
  refine nm_r (pk_sub f3) (px_size (n := n) (k := k - pq_fm n k r) ht (by omega) (by omega) ?_ rfl ?_)
  · rw [pk_sub (by omega), show i + n + 1 - i = n + 1 by omega, nI_pred]
  · by_cases g : pq_ng n k r
    · rw [pq_ur_n g, pq_uy_n g] at h
      obtain ⟨g1, g2⟩ := g
      refine br_f (nI_nle g1 (by omega)) (br_f (nI_nlt g2 (by omega)) (br_f (by decide) (nm_r (pk_sub g2) ?_)))
      exact br_f (by decide) ⟨pk_in (fr + i) 64 hf (nI_add fr i), nm_r (e' := upd x_pulses (fr + i) (-nI (pq_fm n k r))) (by rw [nI_add, nI_clamp (by omega)]) (nm_r (nI_1 i) h)⟩
    · rw [pq_ur_p g, pq_uy_p g] at h
      have K : wX_unindex__pulses_111 post J (nI fr) (nI (i + n + 1)) (nI (r - pq_W n k (pq_fm n k r))) (nI (k - pq_fm n k r)) (nI i) (nI (pq_fm n k r)) (nI (pq_V n (k - pq_fm n k r))) x_length x_low x_encoderRange x_cache x_pending x_readPosition x_decoderRange x_code x_decoderStep x_pulseCounts x_coefs x_energies x_pulses x_decoded x_vec x_sizes x_packet :=
        br_t rfl (br_t rfl ⟨pk_in (fr + i) 64 hf (nI_add fr i), nm_r (e' := upd x_pulses (fr + i) (nI (pq_fm n k r))) (by rw [nI_add, nI_clamp (by omega)]) (nm_r (nI_1 i) h)⟩)
      by_cases z : pq_fm n k r = 0
      · exact br_t (by rw [z]; decide) K
      · have g2 : r - pq_W n k (pq_fm n k r) < pq_V n (k - pq_fm n k r) := by
          have : ¬ pq_V n (k - pq_fm n k r) ≤ r - pq_W n k (pq_fm n k r) := fun y => g ⟨by omega, y⟩
          omega
        exact br_f (nI_nle (by omega) (by omega)) (br_t (nI_lt g2 (by omega)) K)
theorem px_pulses33 {post : SX → Prop} {J : Int32 → Int32 → Int32 → (Nat → Int32) → (Nat → Int32) → (Nat → Int32) → (Nat → Int32) → (Nat → Int32) → (Nat → Int32) → (Nat → Int32) → (Nat → Int32) → Prop} {fr i n k r : Nat} (ht : pq_tb x_sizes) (hn : i + n < 8) (hf : fr + i < 64) (hk : k ≤ 16) (hr : r < pq_V (n + 1) k)
    (h : J (nI (pq_ur n k r)) (nI (k - pq_fm n k r)) (nI (i + 1)) x_pulseCounts x_coefs x_energies (upd x_pulses (fr + i) (pq_uy n k r)) x_decoded x_vec x_sizes x_packet) : ∀ d m, m + d = pq_fm n k r →
    wX_unindex__pulses_33 post J (nI fr) (nI (i + n + 1)) (nI k) (nI i) x_length x_low x_encoderRange x_cache x_pending x_readPosition x_decoderRange x_code x_decoderStep x_pulseCounts x_coefs x_energies x_pulses x_decoded x_vec x_sizes x_packet (d + 1) (nI (r - pq_W n k m)) (nI m) (nI ((if m = 0 then 1 else 2) * pq_V n (k - m))) := by
  have ⟨f1, f2, f3⟩ := pq_fm_s (n := n) (by omega) hk hr
  have hR := pq_Vle (n := n + 1) (k := k) (by omega) hk
  intro d
  induction d with
  | zero =>
    intro m hm
    have e : m = pq_fm n k r := by omega
    have hc := pq_cn_le (n := n) (k := k) (m := m) (by omega) hk
    have h6 : pq_W n k (m + 1) = pq_W n k m + (if m = 0 then 1 else 2) * pq_V n (k - m) := rfl
    have K := px_pulses74 (post := post) (J := J) (x_length := x_length) (x_low := x_low) (x_encoderRange := x_encoderRange) (x_cache := x_cache) (x_pending := x_pending) (x_readPosition := x_readPosition) (x_decoderRange := x_decoderRange) (x_code := x_code) (x_decoderStep := x_decoderStep) (x_pulseCounts := x_pulseCounts) (x_coefs := x_coefs) (x_energies := x_energies) (x_pulses := x_pulses) (x_decoded := x_decoded) (x_vec := x_vec) (x_sizes := x_sizes) (x_packet := x_packet) ht hn hf hk hr h
    rw [← e] at K f1 f2
    by_cases c : k ≤ m
    · exact br_t (nI_le c (by omega)) K
    · exact br_f (nI_ge (by omega) (by omega)) (br_t (nI_lt (by omega) (by omega)) K)
  | succ d ih =>
    intro m hm
    have hc := pq_cn_le (n := n) (k := k) (m := m) (by omega) hk
    have h6 : pq_W n k (m + 1) = pq_W n k m + (if m = 0 then 1 else 2) * pq_V n (k - m) := rfl
    have h7 : pq_W n k (m + 1) ≤ pq_W n k (pq_fm n k r) := pq_W_mono n k (by omega)
    refine br_f (nI_ge (by omega) (by omega)) (br_f (nI_nlt (by omega) (by omega)) (nm_r (e' := nI (r - pq_W n k (m + 1))) ?_ (nm_r (nI_1 m) (px_cwf (m := m + 1) (n := n) (k := k) ht (by omega) (by omega) hk rfl ?_ rfl ?_))))
    · rw [pk_sub (by omega)]
      congr 1
      omega
    · rw [pk_sub (by omega), show i + n + 1 - i = n + 1 by omega]
    · exact ih (m + 1) (by omega)
theorem px_pulses11 {post : SX → Prop} {fr n0 k r : Nat} (ht : pq_tb x_sizes) (hn : n0 ≤ 8) (hf : fr + n0 ≤ 64) (hk : k ≤ 16) (hr : r < pq_V n0 k)
    (K : ∀ c' : Nat → Int32, (∀ t, t < n0 → c' (fr + t) = pq_y n0 k r t) → (∀ j, (j < fr ∨ fr + n0 ≤ j) → c' j = x_pulses j) → post (x_length, x_low, x_encoderRange, x_cache, x_pending, x_readPosition, x_decoderRange, x_code, x_decoderStep, x_pulseCounts, x_coefs, x_energies, c', x_decoded, x_vec, x_sizes, x_packet)) : ∀ d i (c' : Nat → Int32), i + d = n0 → (∀ t, t < i → c' (fr + t) = pq_y n0 k r t) → (∀ j, (j < fr ∨ fr + n0 ≤ j) → c' j = x_pulses j) →
    wX_unindex__pulses_11 post (nI fr) (nI n0) x_length x_low x_encoderRange x_cache x_pending x_readPosition x_decoderRange x_code x_decoderStep (d + 1) (nI (pq_us n0 k r i).2) (nI (pq_us n0 k r i).1) (nI i) x_pulseCounts x_coefs x_energies c' x_decoded x_vec x_sizes x_packet := by
  intro d
  induction d with
  | zero =>
    intro i c' hi h1 h2
    have e : i = n0 := by omega
    subst e
    exact br_t (nI_le (Nat.le_refl _) (by omega)) (K c' h1 h2)
  | succ d ih =>
    intro i c' hi h1 h2
    have e : n0 - i - 1 = d := by omega
    have e2 : i + d + 1 = n0 := by omega
    have ⟨s1, s2⟩ := pq_us_s hn hk hr i (by omega)
    rw [show n0 - i = d + 1 by omega] at s2
    have u1 : (pq_us n0 k r (i + 1)).1 = (pq_us n0 k r i).1 - pq_fm d (pq_us n0 k r i).1 (pq_us n0 k r i).2 := by
      show (pq_us n0 k r i).1 - pq_fm (n0 - i - 1) (pq_us n0 k r i).1 (pq_us n0 k r i).2 = _
      rw [e]
    have u2 : (pq_us n0 k r (i + 1)).2 = pq_ur d (pq_us n0 k r i).1 (pq_us n0 k r i).2 := by
      show pq_ur (n0 - i - 1) (pq_us n0 k r i).1 (pq_us n0 k r i).2 = _
      rw [e]
    have u3 : pq_y n0 k r i = pq_uy d (pq_us n0 k r i).1 (pq_us n0 k r i).2 := by
      show pq_uy (n0 - i - 1) (pq_us n0 k r i).1 (pq_us n0 k r i).2 = _
      rw [e]
    have IH := ih (i + 1) (upd c' (fr + i) (pq_uy d (pq_us n0 k r i).1 (pq_us n0 k r i).2)) (by omega) (by
      intro t ht2
      by_cases z : t = i
      · subst z; rw [pk_us, u3]
      · rw [pk_un (by omega)]; exact h1 t (by omega)) (by
      intro j hj
      rw [pk_un (by omega)]
      exact h2 j hj)
    rw [u1, u2] at IH
    refine br_f (nI_ge (by omega) (by omega)) (px_cwf (m := 0) (n := d) (k := (pq_us n0 k r i).1) ht (by omega) (by omega) s1 rfl ?_ rfl ⟨pq_fm d (pq_us n0 k r i).1 (pq_us n0 k r i).2 + 1, ?_⟩)
    · rw [pk_sub (by omega)]
      congr 1
      omega
    · have G := px_pulses33 (post := post) (J := wX_unindex__pulses_11 post (nI fr) (nI n0) x_length x_low x_encoderRange x_cache x_pending x_readPosition x_decoderRange x_code x_decoderStep (d + 1)) (x_length := x_length) (x_low := x_low) (x_encoderRange := x_encoderRange) (x_cache := x_cache) (x_pending := x_pending) (x_readPosition := x_readPosition) (x_decoderRange := x_decoderRange) (x_code := x_code) (x_decoderStep := x_decoderStep) (x_pulseCounts := x_pulseCounts) (x_coefs := x_coefs) (x_energies := x_energies) (x_pulses := c') (x_decoded := x_decoded) (x_vec := x_vec) (x_sizes := x_sizes) (x_packet := x_packet) (fr := fr) (i := i) (n := d) (k := (pq_us n0 k r i).1) (r := (pq_us n0 k r i).2) ht (by omega) (by omega) s1 s2 IH (pq_fm d (pq_us n0 k r i).1 (pq_us n0 k r i).2) 0 (by omega)
      rw [e2] at G
      exact G
theorem px_pulsesun {post : SX → Prop} {fr n k r : Nat} {p1 p2 p3 p4 : Int32} (ht : pq_tb x_sizes) (hn : n ≤ 8) (hf : fr + n ≤ 64) (hk : k ≤ 16) (hr : r < pq_V n k) (e1 : p1 = nI fr) (e2 : p2 = nI n) (e3 : p3 = nI k) (e4 : p4 = nI r)
    (K : ∀ c' : Nat → Int32, (∀ t, t < n → c' (fr + t) = pq_y n k r t) → (∀ j, (j < fr ∨ fr + n ≤ j) → c' j = x_pulses j) → post (x_length, x_low, x_encoderRange, x_cache, x_pending, x_readPosition, x_decoderRange, x_code, x_decoderStep, x_pulseCounts, x_coefs, x_energies, c', x_decoded, x_vec, x_sizes, x_packet)) : wpX_unindex__pulses post (x_length, x_low, x_encoderRange, x_cache, x_pending, x_readPosition, x_decoderRange, x_code, x_decoderStep, x_pulseCounts, x_coefs, x_energies, x_pulses, x_decoded, x_vec, x_sizes, x_packet) p1 p2 p3 p4 := by
  subst e1 e2 e3 e4
  exact ⟨n + 1, px_pulses11 ht hn hf hk hr K n 0 x_pulses (by omega) (fun t h => absurd h (Nat.not_lt_zero t)) (fun _ _ => rfl)⟩
theorem px_vec74 {post : SX → Prop} {J : Int32 → Int32 → Int32 → (Nat → Int32) → (Nat → Int32) → (Nat → Int32) → (Nat → Int32) → (Nat → Int32) → (Nat → Int32) → (Nat → Int32) → (Nat → Int32) → Prop} {fr i n k r : Nat} (ht : pq_tb x_sizes) (hn : i + n < 8) (hf : fr + i < 8) (hk : k ≤ 16) (hr : r < pq_V (n + 1) k)
    (h : J (nI (pq_ur n k r)) (nI (k - pq_fm n k r)) (nI (i + 1)) x_pulseCounts x_coefs x_energies x_pulses x_decoded (upd x_vec (fr + i) (pq_uy n k r)) x_sizes x_packet) :
    wX_unindex__vec_74 post J (nI fr) (nI (i + n + 1)) (nI (r - pq_W n k (pq_fm n k r))) (nI k) (nI i) (nI (pq_fm n k r)) x_length x_low x_encoderRange x_cache x_pending x_readPosition x_decoderRange x_code x_decoderStep x_pulseCounts x_coefs x_energies x_pulses x_decoded x_vec x_sizes x_packet := by
  have ⟨f1, f2, f3⟩ := pq_fm_s (by omega) hk hr
  have hV := pq_Vle (n := n) (k := k - pq_fm n k r) (by omega) (by omega)
  have hR := pq_Vle (n := n + 1) (k := k) (by omega) hk
  refine nm_r (pk_sub f3) (px_size (n := n) (k := k - pq_fm n k r) ht (by omega) (by omega) ?_ rfl ?_)
  · rw [pk_sub (by omega), show i + n + 1 - i = n + 1 by omega, nI_pred]
  · by_cases g : pq_ng n k r
    · rw [pq_ur_n g, pq_uy_n g] at h
      obtain ⟨g1, g2⟩ := g
      refine br_f (nI_nle g1 (by omega)) (br_f (nI_nlt g2 (by omega)) (br_f (by decide) (nm_r (pk_sub g2) ?_)))
      exact br_f (by decide) ⟨pk_in (fr + i) 8 hf (nI_add fr i), nm_r (e' := upd x_vec (fr + i) (-nI (pq_fm n k r))) (by rw [nI_add, nI_clamp (by omega)]) (nm_r (nI_1 i) h)⟩
    · rw [pq_ur_p g, pq_uy_p g] at h
      have K : wX_unindex__vec_111 post J (nI fr) (nI (i + n + 1)) (nI (r - pq_W n k (pq_fm n k r))) (nI (k - pq_fm n k r)) (nI i) (nI (pq_fm n k r)) (nI (pq_V n (k - pq_fm n k r))) x_length x_low x_encoderRange x_cache x_pending x_readPosition x_decoderRange x_code x_decoderStep x_pulseCounts x_coefs x_energies x_pulses x_decoded x_vec x_sizes x_packet :=
        br_t rfl (br_t rfl ⟨pk_in (fr + i) 8 hf (nI_add fr i), nm_r (e' := upd x_vec (fr + i) (nI (pq_fm n k r))) (by rw [nI_add, nI_clamp (by omega)]) (nm_r (nI_1 i) h)⟩)
      by_cases z : pq_fm n k r = 0
      · exact br_t (by rw [z]; decide) K
      · have g2 : r - pq_W n k (pq_fm n k r) < pq_V n (k - pq_fm n k r) := by
          have : ¬ pq_V n (k - pq_fm n k r) ≤ r - pq_W n k (pq_fm n k r) := fun y => g ⟨by omega, y⟩
          omega
        exact br_f (nI_nle (by omega) (by omega)) (br_t (nI_lt g2 (by omega)) K)
theorem px_vec33 {post : SX → Prop} {J : Int32 → Int32 → Int32 → (Nat → Int32) → (Nat → Int32) → (Nat → Int32) → (Nat → Int32) → (Nat → Int32) → (Nat → Int32) → (Nat → Int32) → (Nat → Int32) → Prop} {fr i n k r : Nat} (ht : pq_tb x_sizes) (hn : i + n < 8) (hf : fr + i < 8) (hk : k ≤ 16) (hr : r < pq_V (n + 1) k)
    (h : J (nI (pq_ur n k r)) (nI (k - pq_fm n k r)) (nI (i + 1)) x_pulseCounts x_coefs x_energies x_pulses x_decoded (upd x_vec (fr + i) (pq_uy n k r)) x_sizes x_packet) : ∀ d m, m + d = pq_fm n k r →
    wX_unindex__vec_33 post J (nI fr) (nI (i + n + 1)) (nI k) (nI i) x_length x_low x_encoderRange x_cache x_pending x_readPosition x_decoderRange x_code x_decoderStep x_pulseCounts x_coefs x_energies x_pulses x_decoded x_vec x_sizes x_packet (d + 1) (nI (r - pq_W n k m)) (nI m) (nI ((if m = 0 then 1 else 2) * pq_V n (k - m))) := by
  have ⟨f1, f2, f3⟩ := pq_fm_s (n := n) (by omega) hk hr
  have hR := pq_Vle (n := n + 1) (k := k) (by omega) hk
  intro d
  induction d with
  | zero =>
    intro m hm
    have e : m = pq_fm n k r := by omega
    have hc := pq_cn_le (n := n) (k := k) (m := m) (by omega) hk
    have h6 : pq_W n k (m + 1) = pq_W n k m + (if m = 0 then 1 else 2) * pq_V n (k - m) := rfl
    have K := px_vec74 (post := post) (J := J) (x_length := x_length) (x_low := x_low) (x_encoderRange := x_encoderRange) (x_cache := x_cache) (x_pending := x_pending) (x_readPosition := x_readPosition) (x_decoderRange := x_decoderRange) (x_code := x_code) (x_decoderStep := x_decoderStep) (x_pulseCounts := x_pulseCounts) (x_coefs := x_coefs) (x_energies := x_energies) (x_pulses := x_pulses) (x_decoded := x_decoded) (x_vec := x_vec) (x_sizes := x_sizes) (x_packet := x_packet) ht hn hf hk hr h
    rw [← e] at K f1 f2
    by_cases c : k ≤ m
    · exact br_t (nI_le c (by omega)) K
    · exact br_f (nI_ge (by omega) (by omega)) (br_t (nI_lt (by omega) (by omega)) K)
  | succ d ih =>
    intro m hm
    have hc := pq_cn_le (n := n) (k := k) (m := m) (by omega) hk
    have h6 : pq_W n k (m + 1) = pq_W n k m + (if m = 0 then 1 else 2) * pq_V n (k - m) := rfl
    have h7 : pq_W n k (m + 1) ≤ pq_W n k (pq_fm n k r) := pq_W_mono n k (by omega)
    refine br_f (nI_ge (by omega) (by omega)) (br_f (nI_nlt (by omega) (by omega)) (nm_r (e' := nI (r - pq_W n k (m + 1))) ?_ (nm_r (nI_1 m) (px_cwf (m := m + 1) (n := n) (k := k) ht (by omega) (by omega) hk rfl ?_ rfl ?_))))
    · rw [pk_sub (by omega)]
      congr 1
      omega
    · rw [pk_sub (by omega), show i + n + 1 - i = n + 1 by omega]
    · exact ih (m + 1) (by omega)
theorem px_vec11 {post : SX → Prop} {fr n0 k r : Nat} (ht : pq_tb x_sizes) (hn : n0 ≤ 8) (hf : fr + n0 ≤ 8) (hk : k ≤ 16) (hr : r < pq_V n0 k)
    (K : ∀ c' : Nat → Int32, (∀ t, t < n0 → c' (fr + t) = pq_y n0 k r t) → (∀ j, (j < fr ∨ fr + n0 ≤ j) → c' j = x_vec j) → post (x_length, x_low, x_encoderRange, x_cache, x_pending, x_readPosition, x_decoderRange, x_code, x_decoderStep, x_pulseCounts, x_coefs, x_energies, x_pulses, x_decoded, c', x_sizes, x_packet)) : ∀ d i (c' : Nat → Int32), i + d = n0 → (∀ t, t < i → c' (fr + t) = pq_y n0 k r t) → (∀ j, (j < fr ∨ fr + n0 ≤ j) → c' j = x_vec j) →
    wX_unindex__vec_11 post (nI fr) (nI n0) x_length x_low x_encoderRange x_cache x_pending x_readPosition x_decoderRange x_code x_decoderStep (d + 1) (nI (pq_us n0 k r i).2) (nI (pq_us n0 k r i).1) (nI i) x_pulseCounts x_coefs x_energies x_pulses x_decoded c' x_sizes x_packet := by
  intro d
  induction d with
  | zero =>
    intro i c' hi h1 h2
    have e : i = n0 := by omega
    subst e
    exact br_t (nI_le (Nat.le_refl _) (by omega)) (K c' h1 h2)
  | succ d ih =>
    intro i c' hi h1 h2
    have e : n0 - i - 1 = d := by omega
    have e2 : i + d + 1 = n0 := by omega
    have ⟨s1, s2⟩ := pq_us_s hn hk hr i (by omega)
    rw [show n0 - i = d + 1 by omega] at s2
    have u1 : (pq_us n0 k r (i + 1)).1 = (pq_us n0 k r i).1 - pq_fm d (pq_us n0 k r i).1 (pq_us n0 k r i).2 := by
      show (pq_us n0 k r i).1 - pq_fm (n0 - i - 1) (pq_us n0 k r i).1 (pq_us n0 k r i).2 = _
      rw [e]
    have u2 : (pq_us n0 k r (i + 1)).2 = pq_ur d (pq_us n0 k r i).1 (pq_us n0 k r i).2 := by
      show pq_ur (n0 - i - 1) (pq_us n0 k r i).1 (pq_us n0 k r i).2 = _
      rw [e]
    have u3 : pq_y n0 k r i = pq_uy d (pq_us n0 k r i).1 (pq_us n0 k r i).2 := by
      show pq_uy (n0 - i - 1) (pq_us n0 k r i).1 (pq_us n0 k r i).2 = _
      rw [e]
    have IH := ih (i + 1) (upd c' (fr + i) (pq_uy d (pq_us n0 k r i).1 (pq_us n0 k r i).2)) (by omega) (by
      intro t ht2
      by_cases z : t = i
      · subst z; rw [pk_us, u3]
      · rw [pk_un (by omega)]; exact h1 t (by omega)) (by
      intro j hj
      rw [pk_un (by omega)]
      exact h2 j hj)
    rw [u1, u2] at IH
    refine br_f (nI_ge (by omega) (by omega)) (px_cwf (m := 0) (n := d) (k := (pq_us n0 k r i).1) ht (by omega) (by omega) s1 rfl ?_ rfl ⟨pq_fm d (pq_us n0 k r i).1 (pq_us n0 k r i).2 + 1, ?_⟩)
    · rw [pk_sub (by omega)]
      congr 1
      omega
    · have G := px_vec33 (post := post) (J := wX_unindex__vec_11 post (nI fr) (nI n0) x_length x_low x_encoderRange x_cache x_pending x_readPosition x_decoderRange x_code x_decoderStep (d + 1)) (x_length := x_length) (x_low := x_low) (x_encoderRange := x_encoderRange) (x_cache := x_cache) (x_pending := x_pending) (x_readPosition := x_readPosition) (x_decoderRange := x_decoderRange) (x_code := x_code) (x_decoderStep := x_decoderStep) (x_pulseCounts := x_pulseCounts) (x_coefs := x_coefs) (x_energies := x_energies) (x_pulses := x_pulses) (x_decoded := x_decoded) (x_vec := c') (x_sizes := x_sizes) (x_packet := x_packet) (fr := fr) (i := i) (n := d) (k := (pq_us n0 k r i).1) (r := (pq_us n0 k r i).2) ht (by omega) (by omega) s1 s2 IH (pq_fm d (pq_us n0 k r i).1 (pq_us n0 k r i).2) 0 (by omega)
      rw [e2] at G
      exact G
theorem px_vecun {post : SX → Prop} {fr n k r : Nat} {p1 p2 p3 p4 : Int32} (ht : pq_tb x_sizes) (hn : n ≤ 8) (hf : fr + n ≤ 8) (hk : k ≤ 16) (hr : r < pq_V n k) (e1 : p1 = nI fr) (e2 : p2 = nI n) (e3 : p3 = nI k) (e4 : p4 = nI r)
    (K : ∀ c' : Nat → Int32, (∀ t, t < n → c' (fr + t) = pq_y n k r t) → (∀ j, (j < fr ∨ fr + n ≤ j) → c' j = x_vec j) → post (x_length, x_low, x_encoderRange, x_cache, x_pending, x_readPosition, x_decoderRange, x_code, x_decoderStep, x_pulseCounts, x_coefs, x_energies, x_pulses, x_decoded, c', x_sizes, x_packet)) : wpX_unindex__vec post (x_length, x_low, x_encoderRange, x_cache, x_pending, x_readPosition, x_decoderRange, x_code, x_decoderStep, x_pulseCounts, x_coefs, x_energies, x_pulses, x_decoded, x_vec, x_sizes, x_packet) p1 p2 p3 p4 := by
  subst e1 e2 e3 e4
  exact ⟨n + 1, px_vec11 ht hn hf hk hr K n 0 x_vec (by omega) (fun t h => absurd h (Nat.not_lt_zero t)) (fun _ _ => rfl)⟩
theorem py_147 {post : SY → Prop} {J : Int32 → Int32 → Int32 → (Nat → Int32) → (Nat → Int32) → (Nat → Int32) → (Nat → Int32) → (Nat → Int32) → (Nat → Int32) → (Nat → Int32) → (Nat → Int32) → (Nat → Int32) → (Nat → Int32) → (Nat → Int32) → Prop} {x1 : Int32} {i n k r : Nat} (hn : i + n < 8) (hk : k ≤ 16) (hr : r < pq_V (n + 1) k)
    (h : J (nI (k - pq_fm n k r)) (nI (pq_ur n k r)) (nI (i + 1)) y_kb y_inp y_encQ y_encP y_decQ y_decP y_decC y_pkt y_vec (upd y_work i (pq_uy n k r)) y_vt) :
    wY_unindexTo_147 post J x1 (nI k) (nI (pq_ur n k r)) (nI i) (pq_uy n k r) y_pktLen y_low y_rng y_cache y_pending y_rpos y_drng y_dcode y_dr y_kb y_inp y_encQ y_encP y_decQ y_decP y_decC y_pkt y_vec y_work y_vt := by
  have ⟨f1, f2, f3⟩ := pq_fm_s (by omega) hk hr
  refine ⟨vp_in_nI (by omega) (by decide), nm_r (e' := upd y_work i (pq_uy n k r)) (by rw [nI_clamp (by omega)]) ?_⟩
  by_cases g : pq_ng n k r
  · refine br_f ?_ (nm_r (e' := nI (k - pq_fm n k r)) ?_ (nm_r (nI_1 i) h))
    · rw [pq_uy_n g]; exact pq_nle0 (pq_neg_lt g.1 (by omega))
    · rw [pq_uy_n g, Int32.neg_neg, pk_sub f3]
  · refine br_t ?_ (nm_r (e' := nI (k - pq_fm n k r)) ?_ (nm_r (nI_1 i) h))
    · rw [pq_uy_p g]; exact nI_pos' (by omega)
    · rw [pq_uy_p g, pk_sub f3]
theorem py_39 {post : SY → Prop} {J : Int32 → Int32 → Int32 → (Nat → Int32) → (Nat → Int32) → (Nat → Int32) → (Nat → Int32) → (Nat → Int32) → (Nat → Int32) → (Nat → Int32) → (Nat → Int32) → (Nat → Int32) → (Nat → Int32) → (Nat → Int32) → Prop} {i n k r : Nat} (ht : pq_tb y_vt) (hn : i + n < 8) (hk : k ≤ 16) (hr : r < pq_V (n + 1) k)
    (h : J (nI (k - pq_fm n k r)) (nI (pq_ur n k r)) (nI (i + 1)) y_kb y_inp y_encQ y_encP y_decQ y_decP y_decC y_pkt y_vec (upd y_work i (pq_uy n k r)) y_vt) : ∀ d m, m + d = pq_fm n k r →
    wY_unindexTo_39 post J (nI (i + n + 1)) (nI k) (nI i) 0 y_pktLen y_low y_rng y_cache y_pending y_rpos y_drng y_dcode y_dr y_kb y_inp y_encQ y_encP y_decQ y_decP y_decC y_pkt y_vec y_work y_vt (d + 1) (nI (r - pq_W n k m)) (nI m) := by
  have ⟨f1, f2, f3⟩ := pq_fm_s (n := n) (by omega) hk hr
  have hR := pq_Vle (n := n + 1) (k := k) (by omega) hk
  have e1 : nI (i + n + 1) - nI i - 1 = nI n := by
    rw [pk_sub (by omega), show i + n + 1 - i = n + 1 by omega, nI_pred]
  intro d
  induction d with
  | zero =>
    intro m hm
    have e : m = pq_fm n k r := by omega
    have hV := pq_Vle (n := n) (k := k - m) (by omega) (by omega)
    have h6 : pq_W n k (m + 1) = pq_W n k m + (if m = 0 then 1 else 2) * pq_V n (k - m) := rfl
    have K := py_147 (post := post) (J := J) (x1 := nI (i + n + 1)) (y_pktLen := y_pktLen) (y_low := y_low) (y_rng := y_rng) (y_cache := y_cache) (y_pending := y_pending) (y_rpos := y_rpos) (y_drng := y_drng) (y_dcode := y_dcode) (y_dr := y_dr) (y_kb := y_kb) (y_inp := y_inp) (y_encQ := y_encQ) (y_encP := y_encP) (y_decQ := y_decQ) (y_decP := y_decP) (y_decC := y_decC) (y_pkt := y_pkt) (y_vec := y_vec) (y_work := y_work) (y_vt := y_vt) hn hk hr h
    refine br_f (nI_nlt (by omega) (by omega)) (br_f (nI_nlt (a := 16) (by omega) (by decide)) (py_vv (n := n) (k := k - m) ht (by omega) (by omega) e1 (pk_sub (by omega)) ?_))
    by_cases z : m = 0
    · rw [if_pos z] at h6
      have g : ¬ pq_ng n k r := fun y => by have := y.1; omega
      have k1 : pq_uy n k r = 0 := by rw [pq_uy_p g, ← e, z]; rfl
      rw [k1, pq_ur_p g, ← e] at K
      rw [← e] at f1 f2
      exact br_t (by rw [z]; rfl) (br_f (nI_ge (by omega) (by omega)) K)
    · rw [if_neg z] at h6
      refine br_f (nI_ne0 (by omega) (by omega)) ?_
      by_cases g2 : pq_V n (k - m) ≤ r - pq_W n k m
      · have g : pq_ng n k r := ⟨by omega, by rw [← e]; exact g2⟩
        rw [pq_uy_n g, pq_ur_n g, ← e] at K
        rw [← e] at f1 f2
        exact br_t (nI_le g2 (by omega)) (nm_r (pk_sub g2) (br_f (nI_ge (by omega) (by omega)) (nm_e K)))
      · have g : ¬ pq_ng n k r := fun y => by have := y.2; rw [← e] at this; omega
        rw [pq_uy_p g, pq_ur_p g, ← e] at K
        exact br_f (nI_ge (by omega) (by omega)) K
  | succ d ih =>
    intro m hm
    have hV := pq_Vle (n := n) (k := k - m) (by omega) (by omega)
    have h6 : pq_W n k (m + 1) = pq_W n k m + (if m = 0 then 1 else 2) * pq_V n (k - m) := rfl
    have h7 : pq_W n k (m + 1) ≤ pq_W n k (pq_fm n k r) := pq_W_mono n k (by omega)
    refine br_f (nI_nlt (by omega) (by omega)) (br_f (nI_nlt (a := 16) (by omega) (by decide)) (py_vv (n := n) (k := k - m) ht (by omega) (by omega) e1 (pk_sub (by omega)) ?_))
    by_cases z : m = 0
    · rw [if_pos z] at h6
      refine br_t (by rw [z]; rfl) (br_t (nI_le (by omega) (by omega)) (nm_r (e' := nI (r - pq_W n k (m + 1))) ?_ (nm_r (nI_1 m) (ih (m + 1) (by omega)))))
      rw [pk_sub (by omega)]
      congr 1
      omega
    · rw [if_neg z] at h6
      refine br_f (nI_ne0 (by omega) (by omega)) (br_t (nI_le (by omega) (by omega)) (nm_r (pk_sub (by omega)) (br_t (nI_le (by omega) (by omega)) (nm_r (e' := nI (r - pq_W n k (m + 1))) ?_ (nm_r (nI_1 m) (ih (m + 1) (by omega)))))))
      rw [pk_sub (by omega)]
      congr 1
      omega
theorem py_9t {post : SY → Prop} {n0 k r : Nat} (hn : n0 ≤ 8)
    (K : ∀ w : Nat → Int32, (∀ t, t < n0 → w t = pq_y n0 k r t) → (∀ t, n0 ≤ t → t < 8 → w t = 0) → post (y_pktLen, y_low, y_rng, y_cache, y_pending, y_rpos, y_drng, y_dcode, y_dr, y_kb, y_inp, y_encQ, y_encP, y_decQ, y_decP, y_decC, y_pkt, y_vec, w, y_vt)) : ∀ d i (x4 x5 : Int32) (w : Nat → Int32), i + d = 8 → n0 ≤ i → (∀ t, t < n0 → w t = pq_y n0 k r t) → (∀ t, n0 ≤ t → t < i → w t = 0) →
    wY_unindexTo_9 post (nI n0) y_pktLen y_low y_rng y_cache y_pending y_rpos y_drng y_dcode y_dr (d + 1) x4 x5 (nI i) y_kb y_inp y_encQ y_encP y_decQ y_decP y_decC y_pkt y_vec w y_vt := by
  intro d
  induction d with
  | zero =>
    intro i x4 x5 w hi hi2 h1 h2
    have e : i = 8 := by omega
    subst e
    exact br_t (nI_le (a := 8) (Nat.le_refl _) (by decide)) (K w h1 h2)
  | succ d ih =>
    intro i x4 x5 w hi hi2 h1 h2
    refine br_f (nI_ge (b := 8) (by omega) (by decide)) ⟨vp_in_nI (by omega) (by decide), nm_r (e' := upd w i 0) (by rw [nI_clamp (by omega)]) (br_f (nI_nlt hi2 (by omega)) (nm_r (nI_1 i) ?_))⟩
    refine ih (i + 1) x4 x5 (upd w i 0) (by omega) (by omega) ?_ ?_
    · intro t ht
      rw [pk_un (by omega)]
      exact h1 t ht
    · intro t ht1 ht2
      by_cases z : t = i
      · subst z; exact pk_us
      · rw [pk_un z]; exact h2 t ht1 (by omega)
theorem py_9 {post : SY → Prop} {n0 k r : Nat} (ht : pq_tb y_vt) (hn : n0 ≤ 8) (hk : k ≤ 16) (hr : r < pq_V n0 k)
    (K : ∀ w : Nat → Int32, (∀ t, t < n0 → w t = pq_y n0 k r t) → (∀ t, n0 ≤ t → t < 8 → w t = 0) → post (y_pktLen, y_low, y_rng, y_cache, y_pending, y_rpos, y_drng, y_dcode, y_dr, y_kb, y_inp, y_encQ, y_encP, y_decQ, y_decP, y_decC, y_pkt, y_vec, w, y_vt)) : ∀ d i (w : Nat → Int32), i + d = n0 → (∀ t, t < i → w t = pq_y n0 k r t) →
    wY_unindexTo_9 post (nI n0) y_pktLen y_low y_rng y_cache y_pending y_rpos y_drng y_dcode y_dr (d + (8 - n0 + 1)) (nI (pq_us n0 k r i).1) (nI (pq_us n0 k r i).2) (nI i) y_kb y_inp y_encQ y_encP y_decQ y_decP y_decC y_pkt y_vec w y_vt := by
  intro d
  induction d with
  | zero =>
    intro i w hi h1
    have e : i = n0 := by omega
    subst e
    rw [Nat.zero_add]
    exact py_9t hn K (8 - i) i _ _ w (by omega) (Nat.le_refl _) h1 (fun t a b => by omega)
  | succ d ih =>
    intro i w hi h1
    have e : n0 - i - 1 = d := by omega
    have e2 : i + d + 1 = n0 := by omega
    have ⟨s1, s2⟩ := pq_us_s hn hk hr i (by omega)
    rw [show n0 - i = d + 1 by omega] at s2
    have u1 : (pq_us n0 k r (i + 1)).1 = (pq_us n0 k r i).1 - pq_fm d (pq_us n0 k r i).1 (pq_us n0 k r i).2 := by
      show (pq_us n0 k r i).1 - pq_fm (n0 - i - 1) (pq_us n0 k r i).1 (pq_us n0 k r i).2 = _
      rw [e]
    have u2 : (pq_us n0 k r (i + 1)).2 = pq_ur d (pq_us n0 k r i).1 (pq_us n0 k r i).2 := by
      show pq_ur (n0 - i - 1) (pq_us n0 k r i).1 (pq_us n0 k r i).2 = _
      rw [e]
    have u3 : pq_y n0 k r i = pq_uy d (pq_us n0 k r i).1 (pq_us n0 k r i).2 := by
      show pq_uy (n0 - i - 1) (pq_us n0 k r i).1 (pq_us n0 k r i).2 = _
      rw [e]
    have IH := ih (i + 1) (upd (upd w i 0) i (pq_uy d (pq_us n0 k r i).1 (pq_us n0 k r i).2)) (by omega) (by
      intro t ht2
      by_cases z : t = i
      · subst z; rw [pk_us, u3]
      · rw [pk_un z, pk_un z]; exact h1 t (by omega))
    rw [u1, u2] at IH
    rw [show d + 1 + (8 - n0 + 1) = d + (8 - n0 + 1) + 1 by omega]
    refine br_f (nI_ge (b := 8) (by omega) (by decide)) ⟨vp_in_nI (by omega) (by decide), nm_r (e' := upd w i 0) (by rw [nI_clamp (by omega)]) (br_t (nI_lt (by omega) (by omega)) ⟨pq_fm d (pq_us n0 k r i).1 (pq_us n0 k r i).2 + 1, ?_⟩)⟩
    have G := py_39 (post := post) (J := wY_unindexTo_9 post (nI n0) y_pktLen y_low y_rng y_cache y_pending y_rpos y_drng y_dcode y_dr (d + (8 - n0 + 1))) (y_pktLen := y_pktLen) (y_low := y_low) (y_rng := y_rng) (y_cache := y_cache) (y_pending := y_pending) (y_rpos := y_rpos) (y_drng := y_drng) (y_dcode := y_dcode) (y_dr := y_dr) (y_kb := y_kb) (y_inp := y_inp) (y_encQ := y_encQ) (y_encP := y_encP) (y_decQ := y_decQ) (y_decP := y_decP) (y_decC := y_decC) (y_pkt := y_pkt) (y_vec := y_vec) (y_work := (upd w i 0)) (y_vt := y_vt) (i := i) (n := d) (k := (pq_us n0 k r i).1) (r := (pq_us n0 k r i).2) ht (by omega) s1 s2 IH (pq_fm d (pq_us n0 k r i).1 (pq_us n0 k r i).2) 0 (by omega)
    rw [e2] at G
    exact G
theorem py_un {post : SY → Prop} {n k r : Nat} {p1 p2 p3 : Int32} (ht : pq_tb y_vt) (hn : n ≤ 8) (hk : k ≤ 16) (hr : r < pq_V n k) (e1 : p1 = nI n) (e2 : p2 = nI k) (e3 : p3 = nI r)
    (K : ∀ w : Nat → Int32, (∀ t, t < n → w t = pq_y n k r t) → (∀ t, n ≤ t → t < 8 → w t = 0) → post (y_pktLen, y_low, y_rng, y_cache, y_pending, y_rpos, y_drng, y_dcode, y_dr, y_kb, y_inp, y_encQ, y_encP, y_decQ, y_decP, y_decC, y_pkt, y_vec, w, y_vt)) : wpY_unindexTo post (y_pktLen, y_low, y_rng, y_cache, y_pending, y_rpos, y_drng, y_dcode, y_dr, y_kb, y_inp, y_encQ, y_encP, y_decQ, y_decP, y_decC, y_pkt, y_vec, y_work, y_vt) p1 p2 p3 := by
  subst e1 e2 e3
  exact ⟨n + (8 - n + 1), py_9 ht hn hk hr K n 0 y_work (by omega) (fun t h => absurd h (Nat.not_lt_zero t))⟩
end PQU
end
section
/-! the search of the pulses, walked -/
theorem pq_absL {P : Int64 → Prop} {x : Int32} (h : P (lN (pq_mg x))) : (0 ≤ x.toInt64 → P x.toInt64) ∧ (¬ 0 ≤ x.toInt64 → ∀ y, y = -x.toInt64 → P y) := by
  by_cases c : x < 0
  · refine br_f (Int64.not_le.mpr (pq_L_lt.mpr c)) (nm_r (pq_L_n c) h)
  · refine br_t (Int64.not_lt.mp (fun z => c (pq_L_lt.mp z))) ?_
    rw [pq_L_p c]
    exact h
theorem pq_HC_l {co : Nat → Int32} (hc : pq_HC co) {b j : Nat} (hb : b < 4) (hj : j < 8) : (nI (pq_mg (co (8 * b + j)))).toInt64 = pq_ab co b j := by
  have := hc (8 * b + j) (by omega)
  exact nI_l (by omega)
section PQG
variable {x_length x_cache x_pending x_readPosition : Int32} {x_low x_encoderRange x_decoderRange x_code x_decoderStep : Int64} {x_pulseCounts x_coefs x_energies x_pulses x_decoded x_vec x_sizes x_packet : Nat → Int32}
variable {y_pktLen y_pending y_rpos : Int32} {y_low y_rng y_cache y_drng y_dcode y_dr : Int64} {y_kb y_inp y_encQ y_encP y_decQ y_decP y_decC y_pkt y_vec y_work y_vt : Nat → Int32}
variable {b : Nat}
theorem px_bp {post : Int32 → Prop} {w : Nat → Nat} {cc ss : Int64} (hb : b < 4) (hc : pq_HC x_coefs) (hw : ∀ j, j < 8 → x_pulses (8 * b + j) = nI (w j)) (h : post (nI (8 * b + (pq_bs (pq_ab x_coefs b) w cc ss 8).1))) : ∀ d j, j + d = 8 →
    wX_bestPosition_12 post (nI (8 * b)) cc ss x_length x_low x_encoderRange x_cache x_pending x_readPosition x_decoderRange x_code x_decoderStep x_pulseCounts x_coefs x_energies x_pulses x_decoded x_vec x_sizes x_packet (d + 1) (nI (8 * b + (pq_bs (pq_ab x_coefs b) w cc ss j).1)) (pq_bs (pq_ab x_coefs b) w cc ss j).2.1 (pq_bs (pq_ab x_coefs b) w cc ss j).2.2 (nI (8 * b + j)) := by
  have e8 : nI (8 * b) + 8 = nI (8 * b + 8) := nI_add _ 8
  intro d
  induction d with
  | zero =>
    intro j hj
    have e : j = 8 := by omega
    subst e
    exact br_t (by rw [e8]; exact nI_le (Nat.le_refl _) (by omega)) h
  | succ d ih =>
    intro j hj
    have IH := ih (j + 1) (by omega)
    refine br_f (by rw [e8]; exact nI_ge (by omega) (by omega)) ⟨vp_in_nI (by omega) (by decide), px_mag (nm_r (e' := cc + pq_ab x_coefs b j) ?_ (nm_e ⟨vp_in_nI (by omega) (by decide), nm_r (e' := ss + (2 * nI (w j)).toInt64 + 1) ?_ ?_⟩))⟩
    · rw [nI_clamp (by omega), pq_HC_l hc hb (by omega)]
    · rw [nI_clamp (by omega), hw j (by omega)]
    · by_cases C : j = 0 ∨ (pq_bs (pq_ab x_coefs b) w cc ss j).2.1 * (ss + (2 * nI (w j)).toInt64 + 1) < (cc + pq_ab x_coefs b j) * (cc + pq_ab x_coefs b j) * (pq_bs (pq_ab x_coefs b) w cc ss j).2.2
      · have e : pq_bs (pq_ab x_coefs b) w cc ss (j + 1) = (j, (cc + pq_ab x_coefs b j) * (cc + pq_ab x_coefs b j), ss + (2 * nI (w j)).toInt64 + 1) := if_pos C
        rw [e] at IH
        by_cases z : j = 0
        · refine br_t (by rw [z]; rfl) (nm_r (nI_1 _) IH)
        · have C2 := C.resolve_left z
          refine br_f (fun y => z ?_) (br_f (Int64.not_le.mpr C2) (nm_r (nI_1 _) IH))
          have := (nI_eq (by omega) (by omega)).mp y
          omega
      · have e : pq_bs (pq_ab x_coefs b) w cc ss (j + 1) = pq_bs (pq_ab x_coefs b) w cc ss j := if_neg C
        rw [e] at IH
        have z : ¬ j = 0 := fun y => C (Or.inl y)
        have C2 := Int64.not_lt.mp (fun y => C (Or.inr y))
        refine br_f (fun y => z ?_) (br_t C2 (nm_r (nI_1 _) IH))
        have := (nI_eq (by omega) (by omega)).mp y
        omega
theorem px_best {post : Int32 → Prop} {w : Nat → Nat} {cc ss : Int64} (hb : b < 4) (hc : pq_HC x_coefs) (hw : ∀ j, j < 8 → x_pulses (8 * b + j) = nI (w j)) (h : post (nI (8 * b + (pq_bs (pq_ab x_coefs b) w cc ss 8).1))) : wpX_bestPosition post (x_length, x_low, x_encoderRange, x_cache, x_pending, x_readPosition, x_decoderRange, x_code, x_decoderStep, x_pulseCounts, x_coefs, x_energies, x_pulses, x_decoded, x_vec, x_sizes, x_packet) (nI (8 * b)) cc ss :=
  ⟨9, px_bp hb hc hw h 8 0 (by omega)⟩
theorem px_108 {post : SX → Prop} {k : Nat} (hb : b < 4) (hk : k ≤ 16)
    (K : ∀ p : Nat → Int32, (∀ j, j < 8 → p (8 * b + j) = pq_yv x_coefs b k j) → (∀ i, (i < 8 * b ∨ 8 * b + 8 ≤ i) → p i = x_pulses i) → post (x_length, x_low, x_encoderRange, x_cache, x_pending, x_readPosition, x_decoderRange, x_code, x_decoderStep, x_pulseCounts, x_coefs, x_energies, p, x_decoded, x_vec, x_sizes, x_packet)) : ∀ d j (p : Nat → Int32), j + d = 8 → (∀ t, t < j → p (8 * b + t) = pq_yv x_coefs b k t) → (∀ t, j ≤ t → t < 8 → p (8 * b + t) = nI (pq_w x_coefs b k t)) → (∀ i, (i < 8 * b ∨ 8 * b + 8 ≤ i) → p i = x_pulses i) →
    wX_searchPulses_108 post (nI (8 * b)) x_length x_low x_encoderRange x_cache x_pending x_readPosition x_decoderRange x_code x_decoderStep (d + 1) (nI j) x_pulseCounts x_coefs x_energies p x_decoded x_vec x_sizes x_packet := by
  intro d
  induction d with
  | zero =>
    intro j p hj h1 h2 h3
    have e : j = 8 := by omega
    subst e
    exact br_t (nI_le (a := 8) (Nat.le_refl _) (by decide)) (K p h1 h3)
  | succ d ih =>
    intro j p hj h1 h2 h3
    have hp := h2 j (Nat.le_refl _) (by omega)
    refine br_f (nI_ge (b := 8) (by omega) (by decide)) ⟨pk_in (8 * b + j) 32 (by omega) (nI_add _ _), ?_⟩
    rw [nI_add, nI_clamp (by omega)]
    by_cases c : x_coefs (8 * b + j) < 0
    · have hy : pq_yv x_coefs b k j = -nI (pq_w x_coefs b k j) := if_pos c
      refine br_f (pq_nle0 c) ⟨vp_in_nI (by omega) (by decide), vp_in_nI (by omega) (by decide), nm_e (nm_r (nI_1 j) ?_)⟩
      rw [hp]
      refine ih (j + 1) _ (by omega) ?_ ?_ ?_
      · intro t ht
        by_cases z : t = j
        · subst z; rw [pk_us, hy]
        · rw [pk_un (by omega)]; exact h1 t (by omega)
      · intro t ht1 ht2
        rw [pk_un (by omega)]
        exact h2 t (by omega) ht2
      · intro i hi
        rw [pk_un (by omega)]
        exact h3 i hi
    · have hy : pq_yv x_coefs b k j = nI (pq_w x_coefs b k j) := if_neg c
      refine br_t (pq_nlt0 c) (nm_r (nI_1 j) (ih (j + 1) p (by omega) ?_ (fun t a c => h2 t (by omega) c) h3))
      intro t ht
      by_cases z : t = j
      · subst z; rw [hp, hy]
      · exact h1 t (by omega)
theorem px_36 {post : SX → Prop} (hb : b < 4) (hc : pq_HC x_coefs) (hk : pq_HK x_pulseCounts)
    (K : ∀ p : Nat → Int32, (∀ j, j < 8 → p (8 * b + j) = pq_yv x_coefs b (pq_k x_pulseCounts b) j) → (∀ i, (i < 8 * b ∨ 8 * b + 8 ≤ i) → p i = x_pulses i) → post (x_length, x_low, x_encoderRange, x_cache, x_pending, x_readPosition, x_decoderRange, x_code, x_decoderStep, x_pulseCounts, x_coefs, x_energies, p, x_decoded, x_vec, x_sizes, x_packet)) : ∀ d i (p : Nat → Int32), i + d = pq_k x_pulseCounts b → (∀ t, t < 8 → p (8 * b + t) = nI ((pq_sr (pq_ab x_coefs b) i).1 t)) → (∀ i, (i < 8 * b ∨ 8 * b + 8 ≤ i) → p i = x_pulses i) →
    wX_searchPulses_36 post (nI b) (nI (8 * b)) x_length x_low x_encoderRange x_cache x_pending x_readPosition x_decoderRange x_code x_decoderStep (d + 1) (pq_sr (pq_ab x_coefs b) i).2.1 (pq_sr (pq_ab x_coefs b) i).2.2 (nI i) x_pulseCounts x_coefs x_energies p x_decoded x_vec x_sizes x_packet := by
  have ⟨k1, k2, k3⟩ := pq_k_s hk hb
  intro d
  induction d with
  | zero =>
    intro i p hi h1 h2
    have e : i = pq_k x_pulseCounts b := by omega
    refine ⟨vp_in_nI hb (by decide), ?_⟩
    rw [nI_clamp (by omega), k3]
    rw [e] at h1
    exact br_t (nI_le (by omega) (by omega)) ⟨9, px_108 hb k2 K 8 0 p (by omega) (fun t h => absurd h (Nat.not_lt_zero t)) (fun t _ ht => h1 t ht) h2⟩
  | succ d ih =>
    intro i p hi h1 h2
    refine ⟨vp_in_nI hb (by decide), ?_⟩
    rw [nI_clamp (by omega), k3]
    have hl := pq_bs_lt (pq_ab x_coefs b) (pq_sr (pq_ab x_coefs b) i).1 (pq_sr (pq_ab x_coefs b) i).2.1 (pq_sr (pq_ab x_coefs b) i).2.2 8 (Nat.le_refl _)
    refine br_f (nI_ge (by omega) (by omega)) (px_best (x_pulses := p) hb hc h1 ⟨vp_in_nI (by omega) (by decide), ?_⟩)
    rw [nI_clamp (by omega)]
    refine px_mag (nm_r (e' := (pq_sr (pq_ab x_coefs b) (i + 1)).2.1) ?_ ⟨vp_in_nI (by omega) (by decide), nm_r (e' := (pq_sr (pq_ab x_coefs b) (i + 1)).2.2) ?_ ⟨vp_in_nI (by omega) (by decide), vp_in_nI (by omega) (by decide), nm_e (nm_r (nI_1 i) (ih (i + 1) _ (by omega) ?_ ?_))⟩⟩)
    · rw [pq_HC_l hc hb hl]; rfl
    · rw [h1 _ hl]; rfl
    · intro t ht
      show _ = nI (pq_up (pq_sr (pq_ab x_coefs b) i).1 (pq_bs (pq_ab x_coefs b) (pq_sr (pq_ab x_coefs b) i).1 (pq_sr (pq_ab x_coefs b) i).2.1 (pq_sr (pq_ab x_coefs b) i).2.2 8).1 t)
      unfold pq_up
      by_cases z : t = (pq_bs (pq_ab x_coefs b) (pq_sr (pq_ab x_coefs b) i).1 (pq_sr (pq_ab x_coefs b) i).2.1 (pq_sr (pq_ab x_coefs b) i).2.2 8).1
      · rw [if_pos z, ← z, pk_us, h1 t ht, nI_1]
      · rw [if_neg z, pk_un (by omega), h1 t ht]
    · intro t ht
      rw [pk_un (by omega)]
      exact h2 t ht
theorem px_7 {post : SX → Prop} (hb : b < 4) (hc : pq_HC x_coefs) (hk : pq_HK x_pulseCounts)
    (K : ∀ p : Nat → Int32, (∀ j, j < 8 → p (8 * b + j) = pq_yv x_coefs b (pq_k x_pulseCounts b) j) → (∀ i, (i < 8 * b ∨ 8 * b + 8 ≤ i) → p i = x_pulses i) → post (x_length, x_low, x_encoderRange, x_cache, x_pending, x_readPosition, x_decoderRange, x_code, x_decoderStep, x_pulseCounts, x_coefs, x_energies, p, x_decoded, x_vec, x_sizes, x_packet)) : ∀ d j (p : Nat → Int32), j + d = 8 → (∀ t, t < j → p (8 * b + t) = 0) → (∀ i, (i < 8 * b ∨ 8 * b + 8 ≤ i) → p i = x_pulses i) →
    wX_searchPulses_7 post (nI b) (nI (8 * b)) x_length x_low x_encoderRange x_cache x_pending x_readPosition x_decoderRange x_code x_decoderStep (d + 1) (nI j) x_pulseCounts x_coefs x_energies p x_decoded x_vec x_sizes x_packet := by
  intro d
  induction d with
  | zero =>
    intro j p hj h1 h2
    have e : j = 8 := by omega
    subst e
    exact br_t (nI_le (a := 8) (Nat.le_refl _) (by decide)) ⟨pq_k x_pulseCounts b + 1, px_36 hb hc hk K (pq_k x_pulseCounts b) 0 p (by omega) h1 h2⟩
  | succ d ih =>
    intro j p hj h1 h2
    refine br_f (nI_ge (b := 8) (by omega) (by decide)) ⟨pk_in (8 * b + j) 64 (by omega) (nI_add _ _), nm_r (e' := upd p (8 * b + j) 0) (by rw [nI_add, nI_clamp (by omega)]) (nm_r (nI_1 j) (ih (j + 1) _ (by omega) ?_ ?_))⟩
    · intro t ht
      by_cases z : t = j
      · subst z; exact pk_us
      · rw [pk_un (by omega)]; exact h1 t (by omega)
    · intro i hi
      rw [pk_un (by omega)]
      exact h2 i hi
theorem px_search {post : SX → Prop} {p0 : Int32} (e0 : p0 = nI b) (hb : b < 4) (hc : pq_HC x_coefs) (hk : pq_HK x_pulseCounts)
    (K : ∀ p : Nat → Int32, (∀ j, j < 8 → p (8 * b + j) = pq_yv x_coefs b (pq_k x_pulseCounts b) j) → (∀ i, (i < 8 * b ∨ 8 * b + 8 ≤ i) → p i = x_pulses i) → post (x_length, x_low, x_encoderRange, x_cache, x_pending, x_readPosition, x_decoderRange, x_code, x_decoderStep, x_pulseCounts, x_coefs, x_energies, p, x_decoded, x_vec, x_sizes, x_packet)) : wpX_searchPulses post (x_length, x_low, x_encoderRange, x_cache, x_pending, x_readPosition, x_decoderRange, x_code, x_decoderStep, x_pulseCounts, x_coefs, x_energies, x_pulses, x_decoded, x_vec, x_sizes, x_packet) p0 := by
  subst e0
  exact nm_r (pq_b8 b) ⟨9, px_7 hb hc hk K 8 0 x_pulses (by omega) (fun t h => absurd h (Nat.not_lt_zero t)) (fun _ _ => rfl)⟩
/-! the same in the reference -/
theorem py_59 {post : SY → Prop} {J : Int64 → Int64 → Int32 → (Nat → Int32) → (Nat → Int32) → (Nat → Int32) → (Nat → Int32) → (Nat → Int32) → (Nat → Int32) → (Nat → Int32) → (Nat → Int32) → (Nat → Int32) → (Nat → Int32) → (Nat → Int32) → Prop} {w : Nat → Nat} {cc ss : Int64} {i : Nat} (hb : b < 4) (hw : ∀ j, j < 8 → y_work j = nI (w j))
    (h : wY_pulseSearch_185 post J (nI b) cc ss (nI i) (nI (pq_bs (pq_ab y_inp b) w cc ss 8).1) (pq_ab y_inp b (pq_bs (pq_ab y_inp b) w cc ss 8).1) y_pktLen y_low y_rng y_cache y_pending y_rpos y_drng y_dcode y_dr y_kb y_inp y_encQ y_encP y_decQ y_decP y_decC y_pkt y_vec y_work y_vt) : ∀ d j, j + d = 8 →
    wY_pulseSearch_59 post J (nI b) cc ss (nI i) y_pktLen y_low y_rng y_cache y_pending y_rpos y_drng y_dcode y_dr y_kb y_inp y_encQ y_encP y_decQ y_decP y_decC y_pkt y_vec y_work y_vt (d + 1) (nI (pq_bs (pq_ab y_inp b) w cc ss j).1) (pq_bs (pq_ab y_inp b) w cc ss j).2.1 (pq_bs (pq_ab y_inp b) w cc ss j).2.2 (nI j) := by
  intro d
  induction d with
  | zero =>
    intro j hj
    have e : j = 8 := by omega
    subst e
    have hl := pq_bs_lt (pq_ab y_inp b) w cc ss 8 (Nat.le_refl _)
    exact br_t (nI_le (a := 8) (Nat.le_refl _) (by decide)) ⟨pk_in (8 * b + (pq_bs (pq_ab y_inp b) w cc ss 8).1) 32 (by omega) (pq_8i _ _), nm_r (e' := (y_inp (8 * b + (pq_bs (pq_ab y_inp b) w cc ss 8).1)).toInt64) (by rw [pq_8i, nI_clamp (by omega)]) (pq_absL (P := fun z => wY_pulseSearch_185 post J (nI b) cc ss (nI i) (nI (pq_bs (pq_ab y_inp b) w cc ss 8).1) z y_pktLen y_low y_rng y_cache y_pending y_rpos y_drng y_dcode y_dr y_kb y_inp y_encQ y_encP y_decQ y_decP y_decC y_pkt y_vec y_work y_vt) h)⟩
  | succ d ih =>
    intro j hj
    have IH := ih (j + 1) (by omega)
    refine br_f (nI_ge (b := 8) (by omega) (by decide)) ⟨pk_in (8 * b + j) 32 (by omega) (pq_8i _ _), nm_r (e' := (y_inp (8 * b + j)).toInt64) (by rw [pq_8i, nI_clamp (by omega)]) (pq_absL (P := fun z => wY_pulseSearch_93 post J (wY_pulseSearch_59 post J (nI b) cc ss (nI i) y_pktLen y_low y_rng y_cache y_pending y_rpos y_drng y_dcode y_dr y_kb y_inp y_encQ y_encP y_decQ y_decP y_decC y_pkt y_vec y_work y_vt (d + 1)) (nI b) cc ss (nI i) (nI (pq_bs (pq_ab y_inp b) w cc ss j).1) (pq_bs (pq_ab y_inp b) w cc ss j).2.1 (pq_bs (pq_ab y_inp b) w cc ss j).2.2 (nI j) z y_pktLen y_low y_rng y_cache y_pending y_rpos y_drng y_dcode y_dr y_kb y_inp y_encQ y_encP y_decQ y_decP y_decC y_pkt y_vec y_work y_vt) ?_)⟩
    refine nm_r (e' := (cc + pq_ab y_inp b j) * (cc + pq_ab y_inp b j)) rfl ⟨vp_in_nI (by omega) (by decide), nm_r (e' := ss + (2 * nI (w j)).toInt64 + 1) ?_ ?_⟩
    · rw [nI_clamp (by omega), hw j (by omega)]
    · by_cases C : j = 0 ∨ (pq_bs (pq_ab y_inp b) w cc ss j).2.1 * (ss + (2 * nI (w j)).toInt64 + 1) < (cc + pq_ab y_inp b j) * (cc + pq_ab y_inp b j) * (pq_bs (pq_ab y_inp b) w cc ss j).2.2
      · have e : pq_bs (pq_ab y_inp b) w cc ss (j + 1) = (j, (cc + pq_ab y_inp b j) * (cc + pq_ab y_inp b j), ss + (2 * nI (w j)).toInt64 + 1) := if_pos C
        rw [e] at IH
        by_cases z : j = 0
        · refine br_t (by rw [z]; rfl) (nm_r (nI_1 _) IH)
        · have C2 := C.resolve_left z
          exact br_f (nI_ne0 (by omega) (by omega)) (br_f (Int64.not_le.mpr C2) (nm_r (nI_1 _) IH))
      · have e : pq_bs (pq_ab y_inp b) w cc ss (j + 1) = pq_bs (pq_ab y_inp b) w cc ss j := if_neg C
        rw [e] at IH
        have z : ¬ j = 0 := fun y => C (Or.inl y)
        have C2 := Int64.not_lt.mp (fun y => C (Or.inr y))
        exact br_f (nI_ne0 (by omega) (by omega)) (br_t C2 (nm_r (nI_1 _) IH))
theorem py_227 {post : SY → Prop} {k : Nat} (hb : b < 4) (hk : k ≤ 16)
    (K : ∀ p : Nat → Int32, (∀ j, j < 8 → p j = pq_yv y_inp b k j) → post (y_pktLen, y_low, y_rng, y_cache, y_pending, y_rpos, y_drng, y_dcode, y_dr, y_kb, y_inp, y_encQ, y_encP, y_decQ, y_decP, y_decC, y_pkt, y_vec, p, y_vt)) : ∀ d j (p : Nat → Int32), j + d = 8 → (∀ t, t < j → p t = pq_yv y_inp b k t) → (∀ t, j ≤ t → t < 8 → p t = nI (pq_w y_inp b k t)) →
    wY_pulseSearch_227 post (nI b) y_pktLen y_low y_rng y_cache y_pending y_rpos y_drng y_dcode y_dr (d + 1) (nI j) y_kb y_inp y_encQ y_encP y_decQ y_decP y_decC y_pkt y_vec p y_vt := by
  intro d
  induction d with
  | zero =>
    intro j p hj h1 h2
    have e : j = 8 := by omega
    subst e
    exact br_t (nI_le (a := 8) (Nat.le_refl _) (by decide)) (K p h1)
  | succ d ih =>
    intro j p hj h1 h2
    have hp := h2 j (Nat.le_refl _) (by omega)
    refine br_f (nI_ge (b := 8) (by omega) (by decide)) ⟨pk_in (8 * b + j) 32 (by omega) (pq_8i _ _), ?_⟩
    rw [pq_8i, nI_clamp (by omega)]
    by_cases c : y_inp (8 * b + j) < 0
    · have hy : pq_yv y_inp b k j = -nI (pq_w y_inp b k j) := if_pos c
      refine br_f (pq_nle0 c) ⟨vp_in_nI (by omega) (by decide), vp_in_nI (by omega) (by decide), nm_e (nm_r (nI_1 j) ?_)⟩
      rw [nI_clamp (by omega), hp]
      refine ih (j + 1) _ (by omega) ?_ ?_
      · intro t ht
        by_cases z : t = j
        · subst z; rw [pk_us, hy]
        · rw [pk_un z]; exact h1 t (by omega)
      · intro t ht1 ht2
        rw [pk_un (by omega)]
        exact h2 t (by omega) ht2
    · have hy : pq_yv y_inp b k j = nI (pq_w y_inp b k j) := if_neg c
      refine br_t (pq_nlt0 c) (nm_r (nI_1 j) (ih (j + 1) p (by omega) ?_ (fun t a c => h2 t (by omega) c)))
      intro t ht
      by_cases z : t = j
      · subst z; rw [hp, hy]
      · exact h1 t (by omega)
theorem py_29 {post : SY → Prop} (hb : b < 4) (hk : pq_HK y_kb)
    (K : ∀ p : Nat → Int32, (∀ j, j < 8 → p j = pq_yv y_inp b (pq_k y_kb b) j) → post (y_pktLen, y_low, y_rng, y_cache, y_pending, y_rpos, y_drng, y_dcode, y_dr, y_kb, y_inp, y_encQ, y_encP, y_decQ, y_decP, y_decC, y_pkt, y_vec, p, y_vt)) : ∀ d i (p : Nat → Int32), i + d = pq_k y_kb b → (∀ t, t < 8 → p t = nI ((pq_sr (pq_ab y_inp b) i).1 t)) →
    wY_pulseSearch_29 post (nI b) y_pktLen y_low y_rng y_cache y_pending y_rpos y_drng y_dcode y_dr (d + 1) (pq_sr (pq_ab y_inp b) i).2.1 (pq_sr (pq_ab y_inp b) i).2.2 (nI i) y_kb y_inp y_encQ y_encP y_decQ y_decP y_decC y_pkt y_vec p y_vt := by
  have ⟨k1, k2, k3⟩ := pq_k_s hk hb
  intro d
  induction d with
  | zero =>
    intro i p hi h1
    have e : i = pq_k y_kb b := by omega
    refine ⟨vp_in_nI hb (by decide), ?_⟩
    rw [nI_clamp (by omega), k3]
    rw [e] at h1
    exact br_t (nI_le (by omega) (by omega)) ⟨9, py_227 hb k2 K 8 0 p (by omega) (fun t h => absurd h (Nat.not_lt_zero t)) (fun t _ ht => h1 t ht)⟩
  | succ d ih =>
    intro i p hi h1
    refine ⟨vp_in_nI hb (by decide), ?_⟩
    rw [nI_clamp (by omega), k3]
    have hl := pq_bs_lt (pq_ab y_inp b) (pq_sr (pq_ab y_inp b) i).1 (pq_sr (pq_ab y_inp b) i).2.1 (pq_sr (pq_ab y_inp b) i).2.2 8 (Nat.le_refl _)
    refine br_f (nI_ge (by omega) (by omega)) (br_f (nI_ge (b := 16) (by omega) (by decide)) ⟨9, py_59 (y_work := p) (w := (pq_sr (pq_ab y_inp b) i).1) hb h1 ?_ 8 0 (by omega)⟩)
    refine nm_r (e' := (pq_sr (pq_ab y_inp b) (i + 1)).2.1) rfl ⟨vp_in_nI hl (by decide), nm_r (e' := (pq_sr (pq_ab y_inp b) (i + 1)).2.2) ?_ ⟨vp_in_nI hl (by decide), vp_in_nI hl (by decide), nm_e (nm_r (nI_1 i) (ih (i + 1) _ (by omega) ?_))⟩⟩
    · rw [nI_clamp (by omega), h1 _ hl]; rfl
    · rw [nI_clamp (by omega)]
      intro t ht
      show _ = nI (pq_up (pq_sr (pq_ab y_inp b) i).1 (pq_bs (pq_ab y_inp b) (pq_sr (pq_ab y_inp b) i).1 (pq_sr (pq_ab y_inp b) i).2.1 (pq_sr (pq_ab y_inp b) i).2.2 8).1 t)
      unfold pq_up
      by_cases z : t = (pq_bs (pq_ab y_inp b) (pq_sr (pq_ab y_inp b) i).1 (pq_sr (pq_ab y_inp b) i).2.1 (pq_sr (pq_ab y_inp b) i).2.2 8).1
      · rw [if_pos z, ← z, pk_us, h1 t ht, nI_1]
      · rw [if_neg z, pk_un z, h1 t ht]
theorem py_2 {post : SY → Prop} (hb : b < 4) (hk : pq_HK y_kb)
    (K : ∀ p : Nat → Int32, (∀ j, j < 8 → p j = pq_yv y_inp b (pq_k y_kb b) j) → post (y_pktLen, y_low, y_rng, y_cache, y_pending, y_rpos, y_drng, y_dcode, y_dr, y_kb, y_inp, y_encQ, y_encP, y_decQ, y_decP, y_decC, y_pkt, y_vec, p, y_vt)) : ∀ d j (p : Nat → Int32), j + d = 8 → (∀ t, t < j → p t = 0) →
    wY_pulseSearch_2 post (nI b) y_pktLen y_low y_rng y_cache y_pending y_rpos y_drng y_dcode y_dr (d + 1) (nI j) y_kb y_inp y_encQ y_encP y_decQ y_decP y_decC y_pkt y_vec p y_vt := by
  intro d
  induction d with
  | zero =>
    intro j p hj h1
    have e : j = 8 := by omega
    subst e
    exact br_t (nI_le (a := 8) (Nat.le_refl _) (by decide)) ⟨pq_k y_kb b + 1, py_29 hb hk K (pq_k y_kb b) 0 p (by omega) h1⟩
  | succ d ih =>
    intro j p hj h1
    refine br_f (nI_ge (b := 8) (by omega) (by decide)) ⟨vp_in_nI (by omega) (by decide), nm_r (e' := upd p j 0) (by rw [nI_clamp (by omega)]) (nm_r (nI_1 j) (ih (j + 1) _ (by omega) ?_))⟩
    intro t ht
    by_cases z : t = j
    · subst z; exact pk_us
    · rw [pk_un z]; exact h1 t (by omega)
theorem py_search {post : SY → Prop} {p0 : Int32} (e0 : p0 = nI b) (hb : b < 4) (hk : pq_HK y_kb)
    (K : ∀ p : Nat → Int32, (∀ j, j < 8 → p j = pq_yv y_inp b (pq_k y_kb b) j) → post (y_pktLen, y_low, y_rng, y_cache, y_pending, y_rpos, y_drng, y_dcode, y_dr, y_kb, y_inp, y_encQ, y_encP, y_decQ, y_decP, y_decC, y_pkt, y_vec, p, y_vt)) : wpY_pulseSearch post (y_pktLen, y_low, y_rng, y_cache, y_pending, y_rpos, y_drng, y_dcode, y_dr, y_kb, y_inp, y_encQ, y_encP, y_decQ, y_decP, y_decC, y_pkt, y_vec, y_work, y_vt) p0 := by
  subst e0
  exact ⟨9, py_2 hb hk K 8 0 y_work (by omega) (fun t h => absurd h (Nat.not_lt_zero t))⟩
end PQG
end
section
/-! a frame, encoded -/
theorem pq_ix_ext {a c : Nat → Int32} : ∀ n i k, (∀ j, i ≤ j → j < i + n → a j = c j) → pq_ix a i n k = pq_ix c i n k := by
  intro n
  induction n with
  | zero => intro i k _; rfl
  | succ n ih =>
    intro i k h
    show pq_W n k (pq_mg (a i)) + (if a i < 0 then pq_V n (k - pq_mg (a i)) else 0) + pq_ix a (i + 1) n (k - pq_mg (a i)) = pq_W n k (pq_mg (c i)) + (if c i < 0 then pq_V n (k - pq_mg (c i)) else 0) + pq_ix c (i + 1) n (k - pq_mg (c i))
    rw [h i (Nat.le_refl _) (by omega), ih (i + 1) _ (fun j h1 h2 => h j (by omega) (by omega))]
theorem pq_M_ext {a c : Nat → Int32} : ∀ n i, (∀ j, i ≤ j → j < i + n → a j = c j) → pq_M a i n = pq_M c i n := by
  intro n
  induction n with
  | zero => intro i _; rfl
  | succ n ih =>
    intro i h
    show pq_mg (a i) + pq_M a (i + 1) n = pq_mg (c i) + pq_M c (i + 1) n
    rw [h i (Nat.le_refl _) (by omega), ih (i + 1) (fun j h1 h2 => h j (by omega) (by omega))]
theorem pq_eb_ext {pk co pc eq eq' : Nat → Int32} : ∀ b, (∀ j, j < b → eq j = eq' j) → pq_eb pk co pc eq b = pq_eb pk co pc eq' b := by
  intro b
  induction b with
  | zero => intro _; rfl
  | succ b ih =>
    intro h
    have h1 := ih (fun j hj => h j (by omega))
    have h2 : pq_k eq b = pq_k eq' b := by unfold pq_k; rw [h b (by omega)]
    show pq_cp (pq_ee co eq b (pq_eb pk co pc eq b)) _ _ = pq_cp (pq_ee co eq' b (pq_eb pk co pc eq' b)) _ _
    unfold pq_ee pq_sb
    rw [h1, h2]
theorem pq_neg2 {q p : Nat} (h : q < p) : (-2) * (nI q - nI p) - 1 = nI (2 * (p - q) - 1) := by
  have e : nI (2 * (p - q) - 1) = 2 * (nI p - nI q) - 1 := by
    rw [← pk_sub (show 1 ≤ 2 * (p - q) by omega), ← pq_2i, ← pk_sub (show q ≤ p by omega)]
    rfl
  rw [e]
  generalize nI p = a
  generalize nI q = c
  grind
theorem pq_pos2 {q p : Nat} (h : p ≤ q) : 2 * (nI q - nI p) = nI (2 * (q - p)) := by
  rw [pk_sub h, pq_2i]
theorem pq_pred {q : Nat} (h : q ≤ 33) : (3 * nI q + 2) / 4 = nI ((3 * q + 2) / 4) := by
  rw [show (3 : Int32) = nI 3 from rfl, pk_mul, show (2 : Int32) = nI 2 from rfl, nI_add, show (4 : Int32) = nI 4 from rfl, pk_div (by omega) (by decide) (by decide)]
section PQA
variable {x_length x_cache x_pending x_readPosition : Int32} {x_low x_encoderRange x_decoderRange x_code x_decoderStep : Int64} {x_pulseCounts x_coefs x_energies x_pulses x_decoded x_vec x_sizes x_packet : Nat → Int32}
variable {y_pktLen y_pending y_rpos : Int32} {y_low y_rng y_cache y_drng y_dcode y_dr : Int64} {y_kb y_inp y_encQ y_encP y_decQ y_decP y_decC y_pkt y_vec y_work y_vt : Nat → Int32}
variable {b : Nat}
theorem px_se29 {post : SX → Prop} (h : post (x_length, x_low, x_encoderRange, x_cache, x_pending, x_readPosition, x_decoderRange, x_code, x_decoderStep, x_pulseCounts, x_coefs, x_energies, x_pulses, x_decoded, x_vec, x_sizes, (pq_clr x_packet 64))) : ∀ d i, i + d = 64 → wX_startEncoder_29 post x_length x_low x_encoderRange x_cache x_pending x_readPosition x_decoderRange x_code x_decoderStep (d + 1) (nI i) x_pulseCounts x_coefs x_energies x_pulses x_decoded x_vec x_sizes (pq_clr x_packet i) := by
  intro d
  induction d with
  | zero =>
    intro i hi
    have e : i = 64 := by omega
    subst e
    exact br_t (nI_le (a := 64) (Nat.le_refl _) (by decide)) h
  | succ d ih =>
    intro i hi
    exact br_f (nI_ge (b := 64) (by omega) (by decide)) ⟨vp_in_nI (by omega) (by decide), nm_r (e' := pq_clr x_packet (i + 1)) (by rw [nI_clamp (by omega)]; rfl) (nm_r (nI_1 i) (ih (i + 1) (by omega)))⟩
theorem px_se {post : SX → Prop} {co pc eq : Nat → Int32} (h : post (nI ((pq_eb (pq_clr x_packet 64) co pc eq 0)).2.2.2.2.1, lN ((pq_eb (pq_clr x_packet 64) co pc eq 0)).1, lN ((pq_eb (pq_clr x_packet 64) co pc eq 0)).2.1, nI ((pq_eb (pq_clr x_packet 64) co pc eq 0)).2.2.1, nI ((pq_eb (pq_clr x_packet 64) co pc eq 0)).2.2.2.1, x_readPosition, x_decoderRange, x_code, x_decoderStep, x_pulseCounts, x_coefs, x_energies, x_pulses, x_decoded, x_vec, x_sizes, ((pq_eb (pq_clr x_packet 64) co pc eq 0)).2.2.2.2.2)) : wpX_startEncoder post (x_length, x_low, x_encoderRange, x_cache, x_pending, x_readPosition, x_decoderRange, x_code, x_decoderStep, x_pulseCounts, x_coefs, x_energies, x_pulses, x_decoded, x_vec, x_sizes, x_packet) :=
  ⟨65, px_se29 h 64 0 (by omega)⟩
theorem px_be5 {post : Int64 → Prop} (hb : b < 4) (h : post (lN (pq_e x_coefs b))) : ∀ d j, j + d = 8 → wX_bandEnergy_5 post (nI b) x_length x_low x_encoderRange x_cache x_pending x_readPosition x_decoderRange x_code x_decoderStep x_pulseCounts x_coefs x_energies x_pulses x_decoded x_vec x_sizes x_packet (d + 1) (lN (pq_S (fun j => pq_mg (x_coefs (8 * b + j)) * pq_mg (x_coefs (8 * b + j))) j)) (nI j) := by
  intro d
  induction d with
  | zero =>
    intro j hj
    have e : j = 8 := by omega
    subst e
    exact br_t (nI_le (a := 8) (Nat.le_refl _) (by decide)) h
  | succ d ih =>
    intro j hj
    refine br_f (nI_ge (b := 8) (by omega) (by decide)) ⟨pk_in (8 * b + j) 32 (by omega) (pq_i8 _ _), nm_r (e' := (x_coefs (8 * b + j)).toInt64) (by rw [pq_i8, nI_clamp (by omega)]) (nm_r ?_ (nm_r (nI_1 j) (ih (j + 1) (by omega))))⟩
    rw [pq_mgL, lN_add]
    rfl
theorem px_be {post : Int64 → Prop} (hb : b < 4) (h : post (lN (pq_e x_coefs b))) : wpX_bandEnergy post (x_length, x_low, x_encoderRange, x_cache, x_pending, x_readPosition, x_decoderRange, x_code, x_decoderStep, x_pulseCounts, x_coefs, x_energies, x_pulses, x_decoded, x_vec, x_sizes, x_packet) (nI b) :=
  ⟨9, px_be5 hb h 8 0 (by omega)⟩
theorem px_ce22 {post : SX → Prop} {B s : Nat} {e : pq_E} (hE : pq_EI B e) (hB : B + 2 < 2 ^ 20) (hs : s < 67) (h : post (nI ((pq_cd e (pq_st s) (pq_f s) 150)).2.2.2.2.1, lN ((pq_cd e (pq_st s) (pq_f s) 150)).1, lN ((pq_cd e (pq_st s) (pq_f s) 150)).2.1, nI ((pq_cd e (pq_st s) (pq_f s) 150)).2.2.1, nI ((pq_cd e (pq_st s) (pq_f s) 150)).2.2.2.1, x_readPosition, x_decoderRange, x_code, x_decoderStep, x_pulseCounts, x_coefs, x_energies, x_pulses, x_decoded, x_vec, x_sizes, ((pq_cd e (pq_st s) (pq_f s) 150)).2.2.2.2.2)) : ∀ d i, i + d = s → wX_codeEnergy_22 post (nI s) (nI e.2.2.2.2.1) (lN e.1) (lN e.2.1) (nI e.2.2.1) (nI e.2.2.2.1) x_readPosition x_decoderRange x_code x_decoderStep x_pulseCounts x_coefs x_energies x_pulses x_decoded x_vec x_sizes e.2.2.2.2.2 (d + 1) (nI (pq_st i)) (nI i) := by
  have ⟨a1, a2, _⟩ := pq_f_s s hs
  intro d
  induction d with
  | zero =>
    intro i hi
    have e : i = s := by omega
    subst e
    exact br_t (nI_le (Nat.le_refl _) (by omega)) (px_sym (s := i) rfl (by omega) (px_cd hE hB (by decide) (by decide) a2 a1 rfl rfl rfl h))
  | succ d ih =>
    intro i hi
    exact br_f (nI_ge (by omega) (by omega)) (px_sym (s := i) rfl (by omega) (nm_r (nI_add _ _) (nm_r (nI_1 i) (ih (i + 1) (by omega)))))
theorem px_ce {post : SX → Prop} {B q p : Nat} {e : pq_E} {p0 : Int32} (e0 : p0 = nI q - nI p) (hq : q ≤ 33) (hp : p ≤ 25) (hE : pq_EI B e) (hB : B + 2 < 2 ^ 20) (h : post (nI ((pq_cd e (pq_st (pq_sm q p)) (pq_f (pq_sm q p)) 150)).2.2.2.2.1, lN ((pq_cd e (pq_st (pq_sm q p)) (pq_f (pq_sm q p)) 150)).1, lN ((pq_cd e (pq_st (pq_sm q p)) (pq_f (pq_sm q p)) 150)).2.1, nI ((pq_cd e (pq_st (pq_sm q p)) (pq_f (pq_sm q p)) 150)).2.2.1, nI ((pq_cd e (pq_st (pq_sm q p)) (pq_f (pq_sm q p)) 150)).2.2.2.1, x_readPosition, x_decoderRange, x_code, x_decoderStep, x_pulseCounts, x_coefs, x_energies, x_pulses, x_decoded, x_vec, x_sizes, ((pq_cd e (pq_st (pq_sm q p)) (pq_f (pq_sm q p)) 150)).2.2.2.2.2)) : wpX_codeEnergy post (nI e.2.2.2.2.1, lN e.1, lN e.2.1, nI e.2.2.1, nI e.2.2.2.1, x_readPosition, x_decoderRange, x_code, x_decoderStep, x_pulseCounts, x_coefs, x_energies, x_pulses, x_decoded, x_vec, x_sizes, e.2.2.2.2.2) p0 := by
  subst e0
  have hs := pq_sm_le hq hp
  by_cases c : p ≤ q
  · have e : pq_sm q p = 2 * (q - p) := if_pos c
    refine br_f (by rw [pk_sub c]; exact nI_pos (by omega)) (nm_r (e' := nI (pq_sm q p)) (by rw [e]; exact pq_pos2 c) ⟨pq_sm q p + 1, px_ce22 hE hB hs h (pq_sm q p) 0 (by omega)⟩)
  · have e : pq_sm q p = 2 * (p - q) - 1 := if_neg c
    refine br_t (pk_sneg (by omega) (by omega)) (nm_r (e' := nI (pq_sm q p)) (by rw [e]; exact pq_neg2 (by omega)) ⟨pq_sm q p + 1, px_ce22 hE hB hs h (pq_sm q p) 0 (by omega)⟩)
theorem pq_shV {a ap : Nat} (h : a < 2 ^ 31) (hp : ap ≤ 8) : nI a >>> (nI ap &&& 31) = nI (a / 2 ^ ap) := pk_shrN h _ _ (s_l ap (by omega))
theorem pq_anV {a ap : Nat} (h : a < 2 ^ 31) (hp : ap ≤ 8) : nI a &&& ((1 : Int32) <<< (nI ap &&& 31) - 1) = nI (a % 2 ^ ap) := by
  rw [pq_p2 ap hp]
  exact pk_andN (by omega) ap (pq_p2m ap hp)
theorem pq_i1 {a : Nat} (h : 1 ≤ a) : nI a - 1 = nI (a - 1) := pk_sub (b := 1) h
theorem px_cp {post : SX → Prop} {B idx : Nat} {e : pq_E} (hb : b < 4) (ht : pq_tb x_sizes) (hk : pq_HK x_pulseCounts) (hE : pq_EI B e) (hB : B + 4 < 2 ^ 20) (hi : idx = pq_ix (fun j => x_pulses (8 * b + j)) 0 8 (pq_k x_pulseCounts b)) (hM : pq_M (fun j => x_pulses (8 * b + j)) 0 8 = pq_k x_pulseCounts b)
    (h : post (nI ((pq_cp e (pq_k x_pulseCounts b) idx)).2.2.2.2.1, lN ((pq_cp e (pq_k x_pulseCounts b) idx)).1, lN ((pq_cp e (pq_k x_pulseCounts b) idx)).2.1, nI ((pq_cp e (pq_k x_pulseCounts b) idx)).2.2.1, nI ((pq_cp e (pq_k x_pulseCounts b) idx)).2.2.2.1, x_readPosition, x_decoderRange, x_code, x_decoderStep, x_pulseCounts, x_coefs, x_energies, x_pulses, x_decoded, x_vec, x_sizes, ((pq_cp e (pq_k x_pulseCounts b) idx)).2.2.2.2.2)) : wpX_codePulses post (nI e.2.2.2.2.1, lN e.1, lN e.2.1, nI e.2.2.1, nI e.2.2.2.1, x_readPosition, x_decoderRange, x_code, x_decoderStep, x_pulseCounts, x_coefs, x_energies, x_pulses, x_decoded, x_vec, x_sizes, e.2.2.2.2.2) (nI b) := by
  have ⟨k1, k2, k3⟩ := pq_k_s hk hb
  have hlt : idx < pq_V 8 (pq_k x_pulseCounts b) := by rw [hi]; exact pq_ix_lt _ 8 0 _ (by omega) k2 hM
  have hV := pq_Vle (n := 8) (k := pq_k x_pulseCounts b) (by omega) k2
  refine ⟨vp_in_nI hb (by decide), nm_r (e' := nI (pq_k x_pulseCounts b)) (by rw [nI_clamp (by omega)]; exact k3) ?_⟩
  refine px_pulsesix (fr := 8 * b) (n := 8) (k := pq_k x_pulseCounts b) ht (by omega) (by omega) k2 hM (by rw [pq_b8, pq_0i]) rfl rfl ?_
  rw [← hi]
  refine px_size (n := 8) (k := pq_k x_pulseCounts b) ht (by omega) k2 rfl rfl (px_low k2 rfl ?_)
  unfold pq_cp at h
  by_cases c : pq_V 8 (pq_k x_pulseCounts b) ≤ 65536
  · rw [if_pos c] at h
    have a0 : pq_ap (pq_k x_pulseCounts b) = 0 := if_pos c
    refine br_t (by rw [a0]; rfl) (px_cd hE (by omega) (by omega) c (Nat.le_refl _) (by omega) rfl rfl rfl h)
  · rw [if_neg c] at h
    have ⟨a1, a2, a3, _⟩ := pq_ap_s _ (show pq_k x_pulseCounts b < 17 by omega) (by omega)
    have ⟨p1, p2⟩ := pq_ap_p _ a2
    have m : idx / 2 ^ pq_ap (pq_k x_pulseCounts b) ≤ (pq_V 8 (pq_k x_pulseCounts b) - 1) / 2 ^ pq_ap (pq_k x_pulseCounts b) := Nat.div_le_div_right (by omega)
    have r : idx % 2 ^ pq_ap (pq_k x_pulseCounts b) < 2 ^ pq_ap (pq_k x_pulseCounts b) := Nat.mod_lt _ p1
    have e1 := pq_cd_s (start := idx / 2 ^ pq_ap (pq_k x_pulseCounts b)) (size := 1) (total := (pq_V 8 (pq_k x_pulseCounts b) - 1) / 2 ^ pq_ap (pq_k x_pulseCounts b) + 1) hE (Nat.succ_pos _) a3 (Nat.le_refl _) (Nat.succ_le_succ m)
    refine br_f (nI_ne0 (by omega) (by omega)) (px_cd hE (by omega) (Nat.succ_pos _) a3 (Nat.le_refl _) (Nat.succ_le_succ m) (pq_shV (by omega) a2) rfl ?_ (px_cd e1 (by omega) p1 (Nat.le_trans p2 (by decide)) (Nat.le_refl _) r (pq_anV (by omega) a2) rfl (pq_p2 _ a2) h))
    rw [pq_i1 (by omega), pq_shV (by omega) a2, nI_1]
theorem px_fl2 {post : SX → Prop} : ∀ d i (e : pq_E) (B : Nat), i + d = 5 → pq_EW B e → B + d < 2 ^ 20 → e.1 < 2 ^ 40 → post (nI ((pq_fl d e)).2.2.2.2.1, lN ((pq_fl d e)).1, lN ((pq_fl d e)).2.1, nI ((pq_fl d e)).2.2.1, nI ((pq_fl d e)).2.2.2.1, x_readPosition, x_decoderRange, x_code, x_decoderStep, x_pulseCounts, x_coefs, x_energies, x_pulses, x_decoded, x_vec, x_sizes, ((pq_fl d e)).2.2.2.2.2) → wX_flush_2 post (d + 1) (nI i) (nI e.2.2.2.2.1) (lN e.1) (lN e.2.1) (nI e.2.2.1) (nI e.2.2.2.1) x_readPosition x_decoderRange x_code x_decoderStep x_pulseCounts x_coefs x_energies x_pulses x_decoded x_vec x_sizes e.2.2.2.2.2 := by
  intro d
  induction d with
  | zero =>
    intro i e B hi hw hB hl h
    exact br_t (nI_le (a := 5) (by omega) (by omega)) h
  | succ d ih =>
    intro i e B hi hw hB hl h
    have := pq_sh_1 e
    exact br_f (nI_ge (b := 5) (by omega) (by decide)) (px_sh hw (by omega) hl (nm_r (nI_1 i) (ih (i + 1) (pq_sh e) (B + 1) (by omega) (pq_sh_w hw) (by omega) (by omega) h)))
theorem px_fl {post : SX → Prop} {e : pq_E} {B : Nat} (hE : pq_EI B e) (hB : B + 5 < 2 ^ 20) (h : post (nI ((pq_fl 5 e)).2.2.2.2.1, lN ((pq_fl 5 e)).1, lN ((pq_fl 5 e)).2.1, nI ((pq_fl 5 e)).2.2.1, nI ((pq_fl 5 e)).2.2.2.1, x_readPosition, x_decoderRange, x_code, x_decoderStep, x_pulseCounts, x_coefs, x_energies, x_pulses, x_decoded, x_vec, x_sizes, ((pq_fl 5 e)).2.2.2.2.2)) : wpX_flush post (nI e.2.2.2.2.1, lN e.1, lN e.2.1, nI e.2.2.1, nI e.2.2.2.1, x_readPosition, x_decoderRange, x_code, x_decoderStep, x_pulseCounts, x_coefs, x_energies, x_pulses, x_decoded, x_vec, x_sizes, e.2.2.2.2.2) :=
  ⟨6, px_fl2 5 0 e B (by omega) hE.1 (by omega) (by have := hE.2.1; omega) h⟩
theorem px_6 {post : Int32 → SX → Prop} {pk : Nat → Int32} (hp : pq_B pk) (ht : pq_tb x_sizes) (hc : pq_HC x_coefs) (hk : pq_HK x_pulseCounts) (hq : pq_HQ x_energies)
    (K : ∀ en pu : Nat → Int32, (∀ j, j < 4 → en j = nI (pq_q x_coefs j)) → (∀ j, 4 ≤ j → en j = x_energies j) → (∀ c j, c < 4 → j < 8 → pu (8 * c + j) = pq_yv x_coefs c (pq_k x_pulseCounts c) j) → (∀ i, 32 ≤ i → pu i = x_pulses i) →
      post (nI (pq_fl 5 (pq_eb pk x_coefs x_pulseCounts x_energies 4)).2.2.2.2.1) (nI ((pq_fl 5 (pq_eb pk x_coefs x_pulseCounts x_energies 4))).2.2.2.2.1, lN ((pq_fl 5 (pq_eb pk x_coefs x_pulseCounts x_energies 4))).1, lN ((pq_fl 5 (pq_eb pk x_coefs x_pulseCounts x_energies 4))).2.1, nI ((pq_fl 5 (pq_eb pk x_coefs x_pulseCounts x_energies 4))).2.2.1, nI ((pq_fl 5 (pq_eb pk x_coefs x_pulseCounts x_energies 4))).2.2.2.1, x_readPosition, x_decoderRange, x_code, x_decoderStep, x_pulseCounts, x_coefs, en, pu, x_decoded, x_vec, x_sizes, ((pq_fl 5 (pq_eb pk x_coefs x_pulseCounts x_energies 4))).2.2.2.2.2)) :
    ∀ d b (en pu : Nat → Int32), b + d = 4 → (∀ j, j < b → en j = nI (pq_q x_coefs j)) → (∀ j, b ≤ j → en j = x_energies j) → (∀ c j, c < b → j < 8 → pu (8 * c + j) = pq_yv x_coefs c (pq_k x_pulseCounts c) j) → (∀ i, 8 * b ≤ i → pu i = x_pulses i) →
    wX_encodeFrame_6 post (d + 1) (nI b) (nI ((pq_eb pk x_coefs x_pulseCounts x_energies b)).2.2.2.2.1) (lN ((pq_eb pk x_coefs x_pulseCounts x_energies b)).1) (lN ((pq_eb pk x_coefs x_pulseCounts x_energies b)).2.1) (nI ((pq_eb pk x_coefs x_pulseCounts x_energies b)).2.2.1) (nI ((pq_eb pk x_coefs x_pulseCounts x_energies b)).2.2.2.1) x_readPosition x_decoderRange x_code x_decoderStep x_pulseCounts x_coefs en pu x_decoded x_vec x_sizes (((pq_eb pk x_coefs x_pulseCounts x_energies b)).2.2.2.2.2) := by
  intro d
  induction d with
  | zero =>
    intro b en pu hb h1 h2 h3 h4
    have e : b = 4 := by omega
    subst e
    exact br_t (nI_le (a := 4) (Nat.le_refl _) (by decide)) (px_fl (pq_eb_s hp hc hk hq 4 (by omega)) (by omega) (K en pu h1 h2 h3 h4))
  | succ d ih =>
    intro b en pu hb h1 h2 h3 h4
    have hb4 : b < 4 := by omega
    have hE := pq_eb_s hp hc hk hq b (by omega)
    have hq1 := pq_q_le hc hb4
    have ⟨hq2, hq3⟩ := pq_q_s hq hb4
    have ⟨k1, k2, k3⟩ := pq_k_s hk hb4
    have hE2 := pq_ee_s hc hq hb4 hE
    have he := pq_e_lt hc hb4
    refine br_f (nI_ge (b := 4) (by omega) (by decide)) (px_be hb4 (px_bl rfl (by omega) ⟨pk_in b 8 (by omega) (pq_0i b), ⟨by decide, ?_⟩⟩))
    rw [pq_0i, nI_clamp (by omega), h2 b (Nat.le_refl _), hq3, pq_pred hq2]
    refine px_ce (q := pq_q x_coefs b) (p := (3 * pq_k x_energies b + 2) / 4) rfl hq1 (by omega) hE (by omega) ?_
    refine px_search rfl hb4 hc hk ?_
    intro pu' g1 g2
    have ix : pq_id x_coefs x_pulseCounts b = pq_ix (fun j => pu' (8 * b + j)) 0 8 (pq_k x_pulseCounts b) := (pq_ix_ext 8 0 _ (fun j _ hj => g1 j (by omega))).symm
    have iM : pq_M (fun j => pu' (8 * b + j)) 0 8 = pq_k x_pulseCounts b := by
      rw [pq_M_ext 8 0 (fun j _ hj => g1 j (by omega))]
      exact pq_yv_M x_coefs b k2
    refine px_cp hb4 ht hk hE2 (by omega) ix iM ⟨vp_in_nI (by omega) (by decide), nm_r (e' := upd en b (nI (pq_q x_coefs b))) rfl (nm_r (nI_1 b) (ih (b + 1) _ pu' (by omega) ?_ ?_ ?_ ?_))⟩
    · intro j hj
      by_cases z : j = b
      · subst z; exact pk_us
      · rw [pk_un z]; exact h1 j (by omega)
    · intro j hj
      rw [pk_un (by omega)]
      exact h2 j (by omega)
    · intro c j hc2 hj
      by_cases z : c = b
      · subst z; exact g1 j hj
      · rw [g2 _ (by omega)]; exact h3 c j (by omega) hj
    · intro i hi
      rw [g2 i (by omega)]
      exact h4 i (by omega)
theorem px_encode {post : Int32 → SX → Prop} (hp : pq_B x_packet) (ht : pq_tb x_sizes) (hc : pq_HC x_coefs) (hk : pq_HK x_pulseCounts) (hq : pq_HQ x_energies)
    (K : ∀ en pu : Nat → Int32, (∀ j, j < 4 → en j = nI (pq_q x_coefs j)) → (∀ j, 4 ≤ j → en j = x_energies j) → (∀ c j, c < 4 → j < 8 → pu (8 * c + j) = pq_yv x_coefs c (pq_k x_pulseCounts c) j) → (∀ i, 32 ≤ i → pu i = x_pulses i) →
      post (nI (pq_fl 5 (pq_eb (pq_clr x_packet 64) x_coefs x_pulseCounts x_energies 4)).2.2.2.2.1) (nI ((pq_fl 5 (pq_eb (pq_clr x_packet 64) x_coefs x_pulseCounts x_energies 4))).2.2.2.2.1, lN ((pq_fl 5 (pq_eb (pq_clr x_packet 64) x_coefs x_pulseCounts x_energies 4))).1, lN ((pq_fl 5 (pq_eb (pq_clr x_packet 64) x_coefs x_pulseCounts x_energies 4))).2.1, nI ((pq_fl 5 (pq_eb (pq_clr x_packet 64) x_coefs x_pulseCounts x_energies 4))).2.2.1, nI ((pq_fl 5 (pq_eb (pq_clr x_packet 64) x_coefs x_pulseCounts x_energies 4))).2.2.2.1, x_readPosition, x_decoderRange, x_code, x_decoderStep, x_pulseCounts, x_coefs, en, pu, x_decoded, x_vec, x_sizes, ((pq_fl 5 (pq_eb (pq_clr x_packet 64) x_coefs x_pulseCounts x_energies 4))).2.2.2.2.2)) : wpX_encodeFrame post (x_length, x_low, x_encoderRange, x_cache, x_pending, x_readPosition, x_decoderRange, x_code, x_decoderStep, x_pulseCounts, x_coefs, x_energies, x_pulses, x_decoded, x_vec, x_sizes, x_packet) := by
  unfold wpX_encodeFrame
  dsimp only
  refine px_se (co := x_coefs) (pc := x_pulseCounts) (eq := x_energies) ⟨5, ?_⟩
  exact px_6 (pq_clr_B hp 64) ht hc hk hq K 4 0 x_energies x_pulses (by omega) (fun j h => absurd h (Nat.not_lt_zero j)) (fun _ _ => rfl) (fun c _ h => absurd h (Nat.not_lt_zero c)) (fun _ _ => rfl)
end PQA
end
section
/-! a frame, encoded by the reference -/
section PQB
variable {x_length x_cache x_pending x_readPosition : Int32} {x_low x_encoderRange x_decoderRange x_code x_decoderStep : Int64} {x_pulseCounts x_coefs x_energies x_pulses x_decoded x_vec x_sizes x_packet : Nat → Int32}
variable {y_pktLen y_pending y_rpos : Int32} {y_low y_rng y_cache y_drng y_dcode y_dr : Int64} {y_kb y_inp y_encQ y_encP y_decQ y_decP y_decC y_pkt y_vec y_work y_vt : Nat → Int32}
variable {b : Nat}
theorem py_ue {post : SY → Prop} {B k idx : Nat} {e : pq_E} {p0 p1 : Int32} (hk : k ≤ 16) (hE : pq_EI B e) (hB : B + 4 < 2 ^ 20) (hlt : idx < pq_V 8 k) (e0 : p0 = nI idx) (e1 : p1 = nI (pq_V 8 k)) (h : post (nI ((pq_cp e k idx)).2.2.2.2.1, lN ((pq_cp e k idx)).1, lN ((pq_cp e k idx)).2.1, lN ((pq_cp e k idx)).2.2.1, nI ((pq_cp e k idx)).2.2.2.1, y_rpos, y_drng, y_dcode, y_dr, y_kb, y_inp, y_encQ, y_encP, y_decQ, y_decP, y_decC, ((pq_cp e k idx)).2.2.2.2.2, y_vec, y_work, y_vt)) : wpY_uniformEnc post (nI e.2.2.2.2.1, lN e.1, lN e.2.1, lN e.2.2.1, nI e.2.2.2.1, y_rpos, y_drng, y_dcode, y_dr, y_kb, y_inp, y_encQ, y_encP, y_decQ, y_decP, y_decC, e.2.2.2.2.2, y_vec, y_work, y_vt) p0 p1 := by
  subst e0 e1
  have hV := pq_Vle (n := 8) (k := k) (by omega) hk
  unfold pq_cp at h
  by_cases c : pq_V 8 k ≤ 65536
  · rw [if_pos c] at h
    exact br_f (nI_nlt (a := 65536) c (by decide)) (py_cd hE (by omega) (by omega) c (Nat.le_refl _) (by omega) (nI_l (by omega)) rfl (nI_l (by omega)) h)
  · rw [if_neg c] at h
    have ⟨a1, a2, a3, a4⟩ := pq_ap_s k (by omega) (by omega)
    have ⟨p1, p2⟩ := pq_ap_p _ a2
    have m : idx / 2 ^ pq_ap k ≤ (pq_V 8 k - 1) / 2 ^ pq_ap k := Nat.div_le_div_right (by omega)
    have r : idx % 2 ^ pq_ap k < 2 ^ pq_ap k := Nat.mod_lt _ p1
    have q1 : idx / 2 ^ pq_ap k ≤ idx := Nat.div_le_self _ _
    have q2 : idx % 2 ^ pq_ap k ≤ idx := Nat.mod_le _ _
    have e1 := pq_cd_s (start := idx / 2 ^ pq_ap k) (size := 1) (total := (pq_V 8 k - 1) / 2 ^ pq_ap k + 1) hE (Nat.succ_pos _) a3 (Nat.le_refl _) (Nat.succ_le_succ m)
    refine br_t (nI_lt (a := 65536) (by omega) (by omega)) (nm_r (pq_i1 (by omega)) (py_bl (nI_l (by omega)) (by omega) (nm_r (e' := nI (pq_ap k)) ?_ ?_)))
    · rw [a4, show (16 : Int32) = nI 16 from rfl, pk_sub (by omega), Nat.add_sub_cancel]
    · refine py_cd hE (by omega) (Nat.succ_pos _) a3 (Nat.le_refl _) (Nat.succ_le_succ m) ?_ rfl ?_ (py_cd e1 (by omega) p1 (Nat.le_trans p2 (by decide)) (Nat.le_refl _) r ?_ rfl ?_ h)
      · rw [pq_shV (by omega) a2, nI_l (by omega)]
      · rw [pq_shV (by omega) a2, nI_1, nI_l (by omega)]
      · rw [pq_anV (by omega) a2, nI_l (by omega)]
      · rw [pq_p2 _ a2, nI_l (by omega)]
theorem py_266 {post : Int32 → SY → Prop} : ∀ d i (e : pq_E) (B : Nat), i + d = 5 → pq_EW B e → B + d < 2 ^ 20 → e.1 < 2 ^ 40 → post (nI (pq_fl d e).2.2.2.2.1) (nI ((pq_fl d e)).2.2.2.2.1, lN ((pq_fl d e)).1, lN ((pq_fl d e)).2.1, lN ((pq_fl d e)).2.2.1, nI ((pq_fl d e)).2.2.2.1, y_rpos, y_drng, y_dcode, y_dr, y_kb, y_inp, y_encQ, y_encP, y_decQ, y_decP, y_decC, ((pq_fl d e)).2.2.2.2.2, y_vec, y_work, y_vt) → wY_encodeFrame_266 post (d + 1) (nI i) (nI e.2.2.2.2.1) (lN e.1) (lN e.2.1) (lN e.2.2.1) (nI e.2.2.2.1) y_rpos y_drng y_dcode y_dr y_kb y_inp y_encQ y_encP y_decQ y_decP y_decC e.2.2.2.2.2 y_vec y_work y_vt := by
  intro d
  induction d with
  | zero =>
    intro i e B hi hw hB hl h
    exact br_t (nI_le (a := 5) (by omega) (by omega)) h
  | succ d ih =>
    intro i e B hi hw hB hl h
    have := pq_sh_1 e
    exact br_f (nI_ge (b := 5) (by omega) (by decide)) (py_sh hw (by omega) hl (nm_r (nI_1 i) (ih (i + 1) (pq_sh e) (B + 1) (by omega) (pq_sh_w hw) (by omega) (by omega) h)))
theorem py_226 {post : Int32 → SY → Prop} {J : Int32 → Int32 → Int64 → Int64 → Int64 → Int32 → Int32 → Int64 → Int64 → Int64 → (Nat → Int32) → (Nat → Int32) → (Nat → Int32) → (Nat → Int32) → (Nat → Int32) → (Nat → Int32) → (Nat → Int32) → (Nat → Int32) → (Nat → Int32) → (Nat → Int32) → (Nat → Int32) → Prop} (hb : b < 4)
    (K : ∀ pu : Nat → Int32, (∀ j, j < 8 → pu (8 * b + j) = y_work j) → (∀ i, (i < 8 * b ∨ 8 * b + 8 ≤ i) → pu i = y_encP i) → J (nI (b + 1)) y_pktLen y_low y_rng y_cache y_pending y_rpos y_drng y_dcode y_dr y_kb y_inp y_encQ pu y_decQ y_decP y_decC y_pkt y_vec y_work y_vt) : ∀ d j (pu : Nat → Int32), j + d = 8 → (∀ t, t < j → pu (8 * b + t) = y_work t) → (∀ i, (i < 8 * b ∨ 8 * b + 8 ≤ i) → pu i = y_encP i) →
    wY_encodeFrame_226 post J (nI b) y_pktLen y_low y_rng y_cache y_pending y_rpos y_drng y_dcode y_dr (d + 1) (nI j) y_kb y_inp y_encQ pu y_decQ y_decP y_decC y_pkt y_vec y_work y_vt := by
  intro d
  induction d with
  | zero =>
    intro j pu hj h1 h2
    have e : j = 8 := by omega
    subst e
    exact br_t (nI_le (a := 8) (Nat.le_refl _) (by decide)) (nm_r (nI_1 b) (K pu h1 h2))
  | succ d ih =>
    intro j pu hj h1 h2
    refine br_f (nI_ge (b := 8) (by omega) (by decide)) ⟨vp_in_nI (by omega) (by decide), pk_in (8 * b + j) 32 (by omega) (pq_8i _ _), nm_r (e' := upd pu (8 * b + j) (y_work j)) (by rw [pq_8i, nI_clamp (by omega), nI_clamp (by omega)]) (nm_r (nI_1 j) (ih (j + 1) _ (by omega) ?_ ?_))⟩
    · intro t ht
      by_cases z : t = j
      · subst z; exact pk_us
      · rw [pk_un (by omega)]; exact h1 t (by omega)
    · intro i hi
      rw [pk_un (by omega)]
      exact h2 i hi
theorem py_143 {post : Int32 → SY → Prop} {J : Int32 → Int32 → Int64 → Int64 → Int64 → Int32 → Int32 → Int64 → Int64 → Int64 → (Nat → Int32) → (Nat → Int32) → (Nat → Int32) → (Nat → Int32) → (Nat → Int32) → (Nat → Int32) → (Nat → Int32) → (Nat → Int32) → (Nat → Int32) → (Nat → Int32) → (Nat → Int32) → Prop} {B s : Nat} {e : pq_E} {x4 : Int32} (hb : b < 4) (ht : pq_tb y_vt) (hk : pq_HK y_kb) (hs : s < 67) (hE : pq_EI B e) (hB : B + 6 < 2 ^ 20)
    (K : ∀ wk pu : Nat → Int32, (∀ j, j < 8 → pu (8 * b + j) = pq_yv y_inp b (pq_k y_kb b) j) → (∀ i, (i < 8 * b ∨ 8 * b + 8 ≤ i) → pu i = y_encP i) →
      J (nI (b + 1)) (nI ((pq_cp (pq_cd e (pq_st s) (pq_f s) 150) (pq_k y_kb b) (pq_id y_inp y_kb b))).2.2.2.2.1) (lN ((pq_cp (pq_cd e (pq_st s) (pq_f s) 150) (pq_k y_kb b) (pq_id y_inp y_kb b))).1) (lN ((pq_cp (pq_cd e (pq_st s) (pq_f s) 150) (pq_k y_kb b) (pq_id y_inp y_kb b))).2.1) (lN ((pq_cp (pq_cd e (pq_st s) (pq_f s) 150) (pq_k y_kb b) (pq_id y_inp y_kb b))).2.2.1) (nI ((pq_cp (pq_cd e (pq_st s) (pq_f s) 150) (pq_k y_kb b) (pq_id y_inp y_kb b))).2.2.2.1) y_rpos y_drng y_dcode y_dr y_kb y_inp (upd y_encQ b x4) pu y_decQ y_decP y_decC (((pq_cp (pq_cd e (pq_st s) (pq_f s) 150) (pq_k y_kb b) (pq_id y_inp y_kb b))).2.2.2.2.2) y_vec wk y_vt) :
    wY_encodeFrame_143 post J (nI b) x4 (nI s) (nI e.2.2.2.2.1) (lN e.1) (lN e.2.1) (lN e.2.2.1) (nI e.2.2.2.1) y_rpos y_drng y_dcode y_dr y_kb y_inp y_encQ y_encP y_decQ y_decP y_decC e.2.2.2.2.2 y_vec y_work y_vt := by
  have ⟨k1, k2, k3⟩ := pq_k_s hk hb
  have ⟨a1, a2, a3⟩ := pq_f_s s hs
  have hE2 := pq_cd_s hE (by decide) (by decide) a2 a1
  unfold wY_encodeFrame_143
  refine py_st rfl (by omega) (py_freq rfl (by omega) (py_cd hE (by omega) (by decide) (by decide) a2 a1 (nI_l (by omega)) (nI_l (by omega)) rfl ?_))
  refine py_search rfl hb hk ?_
  intro wk g1
  have iM : pq_M wk 0 8 = pq_k y_kb b := by
    rw [pq_M_ext 8 0 (fun j _ hj => g1 j (by omega))]
    exact pq_yv_M y_inp b k2
  have ix : pq_ix wk 0 8 (pq_k y_kb b) = pq_id y_inp y_kb b := pq_ix_ext 8 0 _ (fun j _ hj => g1 j (by omega))
  refine ⟨vp_in_nI hb (by decide), ?_⟩
  rw [nI_clamp (by omega), k3]
  refine py_ix (n := 8) (k := pq_k y_kb b) ht (by omega) k2 iM rfl rfl ⟨vp_in_nI hb (by decide), ?_⟩
  rw [ix]
  refine py_vv (n := 8) (k := pq_k y_kb b) ht (by omega) k2 rfl rfl (py_ue k2 hE2 (by omega) (pq_id_lt y_inp hk hb) rfl rfl ⟨vp_in_nI hb (by decide), nm_r (e' := upd y_encQ b x4) rfl ⟨9, ?_⟩⟩)
  refine py_226 hb ?_ 8 0 y_encP (by omega) (fun t h => absurd h (Nat.not_lt_zero t)) (fun _ _ => rfl)
  intro pu u1 u2
  refine K wk pu ?_ u2
  intro j hj
  rw [u1 j hj, g1 j hj]
theorem py_60 {post : Int32 → SY → Prop} {J : Int32 → Int32 → Int64 → Int64 → Int64 → Int32 → Int32 → Int64 → Int64 → Int64 → (Nat → Int32) → (Nat → Int32) → (Nat → Int32) → (Nat → Int32) → (Nat → Int32) → (Nat → Int32) → (Nat → Int32) → (Nat → Int32) → (Nat → Int32) → (Nat → Int32) → (Nat → Int32) → Prop} {B qo : Nat} {e : pq_E} (hb : b < 4) (ht : pq_tb y_vt) (hc : pq_HC y_inp) (hk : pq_HK y_kb) (hqo : qo ≤ 33) (hq : y_encQ b = nI qo) (hE : pq_EI B e) (hB : B + 6 < 2 ^ 20)
    (K : ∀ wk pu : Nat → Int32, (∀ j, j < 8 → pu (8 * b + j) = pq_yv y_inp b (pq_k y_kb b) j) → (∀ i, (i < 8 * b ∨ 8 * b + 8 ≤ i) → pu i = y_encP i) →
      J (nI (b + 1)) (nI ((pq_cp (pq_cd e (pq_st (pq_sm (pq_q y_inp b) ((3 * qo + 2) / 4))) (pq_f (pq_sm (pq_q y_inp b) ((3 * qo + 2) / 4))) 150) (pq_k y_kb b) (pq_id y_inp y_kb b))).2.2.2.2.1) (lN ((pq_cp (pq_cd e (pq_st (pq_sm (pq_q y_inp b) ((3 * qo + 2) / 4))) (pq_f (pq_sm (pq_q y_inp b) ((3 * qo + 2) / 4))) 150) (pq_k y_kb b) (pq_id y_inp y_kb b))).1) (lN ((pq_cp (pq_cd e (pq_st (pq_sm (pq_q y_inp b) ((3 * qo + 2) / 4))) (pq_f (pq_sm (pq_q y_inp b) ((3 * qo + 2) / 4))) 150) (pq_k y_kb b) (pq_id y_inp y_kb b))).2.1) (lN ((pq_cp (pq_cd e (pq_st (pq_sm (pq_q y_inp b) ((3 * qo + 2) / 4))) (pq_f (pq_sm (pq_q y_inp b) ((3 * qo + 2) / 4))) 150) (pq_k y_kb b) (pq_id y_inp y_kb b))).2.2.1) (nI ((pq_cp (pq_cd e (pq_st (pq_sm (pq_q y_inp b) ((3 * qo + 2) / 4))) (pq_f (pq_sm (pq_q y_inp b) ((3 * qo + 2) / 4))) 150) (pq_k y_kb b) (pq_id y_inp y_kb b))).2.2.2.1) y_rpos y_drng y_dcode y_dr y_kb y_inp (upd y_encQ b (nI (pq_q y_inp b))) pu y_decQ y_decP y_decC (((pq_cp (pq_cd e (pq_st (pq_sm (pq_q y_inp b) ((3 * qo + 2) / 4))) (pq_f (pq_sm (pq_q y_inp b) ((3 * qo + 2) / 4))) 150) (pq_k y_kb b) (pq_id y_inp y_kb b))).2.2.2.2.2) y_vec wk y_vt) : ∀ d j, j + d = 8 →
    wY_encodeFrame_60 post J (nI b) (nI e.2.2.2.2.1) (lN e.1) (lN e.2.1) (lN e.2.2.1) (nI e.2.2.2.1) y_rpos y_drng y_dcode y_dr y_kb y_inp y_encQ y_encP y_decQ y_decP y_decC e.2.2.2.2.2 y_vec y_work y_vt (d + 1) (lN (pq_S (fun j => pq_mg (y_inp (8 * b + j)) * pq_mg (y_inp (8 * b + j))) j)) (nI j) := by
  have hq1 := pq_q_le hc hb
  have he := pq_e_lt hc hb
  have hs := pq_sm_le hq1 (show (3 * qo + 2) / 4 ≤ 25 by omega)
  intro d
  induction d with
  | zero =>
    intro j hj
    have e8 : j = 8 := by omega
    subst e8
    have G : wY_encodeFrame_143 post J (nI b) (nI (pq_q y_inp b)) (nI (pq_sm (pq_q y_inp b) ((3 * qo + 2) / 4))) (nI e.2.2.2.2.1) (lN e.1) (lN e.2.1) (lN e.2.2.1) (nI e.2.2.2.1) y_rpos y_drng y_dcode y_dr y_kb y_inp y_encQ y_encP y_decQ y_decP y_decC e.2.2.2.2.2 y_vec y_work y_vt := py_143 hb ht hk hs hE hB K
    refine br_t (nI_le (a := 8) (Nat.le_refl _) (by decide)) (py_bl (M := pq_e y_inp b) rfl (by omega) ⟨vp_in_nI hb (by decide), by decide, nm_r (e' := nI ((3 * qo + 2) / 4)) (by rw [nI_clamp (by omega), hq, pq_pred hqo]) (nm_e ?_)⟩)
    by_cases c : (3 * qo + 2) / 4 ≤ pq_q y_inp b
    · have e2 : pq_sm (pq_q y_inp b) ((3 * qo + 2) / 4) = 2 * (pq_q y_inp b - (3 * qo + 2) / 4) := if_pos c
      refine br_f (by show ¬ nI (pq_q y_inp b) - _ < 0; rw [pk_sub c]; exact nI_pos (by omega)) ?_
      have e3 : 2 * (nI (pq_bl (pq_e y_inp b)) - nI ((3 * qo + 2) / 4)) = nI (pq_sm (pq_q y_inp b) ((3 * qo + 2) / 4)) := by rw [e2]; exact pq_pos2 c
      rw [e3]
      exact G
    · have e2 : pq_sm (pq_q y_inp b) ((3 * qo + 2) / 4) = 2 * ((3 * qo + 2) / 4 - pq_q y_inp b) - 1 := if_neg c
      refine br_t (pk_sneg (a := pq_q y_inp b) (by omega) (by omega)) ?_
      have e3 : (-2) * (nI (pq_bl (pq_e y_inp b)) - nI ((3 * qo + 2) / 4)) - 1 = nI (pq_sm (pq_q y_inp b) ((3 * qo + 2) / 4)) := by rw [e2]; exact pq_neg2 (q := pq_q y_inp b) (by omega)
      rw [e3]
      exact G
  | succ d ih =>
    intro j hj
    refine br_f (nI_ge (b := 8) (by omega) (by decide)) ⟨pk_in (8 * b + j) 32 (by omega) (pq_8i _ _), nm_r (e' := (y_inp (8 * b + j)).toInt64) (by rw [pq_8i, nI_clamp (by omega)]) (nm_r ?_ (nm_r (nI_1 j) (ih (j + 1) (by omega))))⟩
    rw [pq_mgL, lN_add]
    rfl
theorem py_50 {post : Int32 → SY → Prop} {pk : Nat → Int32} (hp : pq_B pk) (ht : pq_tb y_vt) (hc : pq_HC y_inp) (hk : pq_HK y_kb) (hq : pq_HQ y_encQ)
    (K : ∀ en pu wk : Nat → Int32, (∀ j, j < 4 → en j = nI (pq_q y_inp j)) → (∀ c j, c < 4 → j < 8 → pu (8 * c + j) = pq_yv y_inp c (pq_k y_kb c) j) →
      post (nI (pq_fl 5 (pq_eb pk y_inp y_kb y_encQ 4)).2.2.2.2.1) (nI ((pq_fl 5 (pq_eb pk y_inp y_kb y_encQ 4))).2.2.2.2.1, lN ((pq_fl 5 (pq_eb pk y_inp y_kb y_encQ 4))).1, lN ((pq_fl 5 (pq_eb pk y_inp y_kb y_encQ 4))).2.1, lN ((pq_fl 5 (pq_eb pk y_inp y_kb y_encQ 4))).2.2.1, nI ((pq_fl 5 (pq_eb pk y_inp y_kb y_encQ 4))).2.2.2.1, y_rpos, y_drng, y_dcode, y_dr, y_kb, y_inp, en, pu, y_decQ, y_decP, y_decC, ((pq_fl 5 (pq_eb pk y_inp y_kb y_encQ 4))).2.2.2.2.2, y_vec, wk, y_vt)) :
    ∀ d b (en pu wk : Nat → Int32), b + d = 4 → (∀ j, j < b → en j = nI (pq_q y_inp j)) → (∀ j, b ≤ j → en j = y_encQ j) → (∀ c j, c < b → j < 8 → pu (8 * c + j) = pq_yv y_inp c (pq_k y_kb c) j) →
    wY_encodeFrame_50 post (d + 1) (nI b) (nI ((pq_eb pk y_inp y_kb y_encQ b)).2.2.2.2.1) (lN ((pq_eb pk y_inp y_kb y_encQ b)).1) (lN ((pq_eb pk y_inp y_kb y_encQ b)).2.1) (lN ((pq_eb pk y_inp y_kb y_encQ b)).2.2.1) (nI ((pq_eb pk y_inp y_kb y_encQ b)).2.2.2.1) y_rpos y_drng y_dcode y_dr y_kb y_inp en pu y_decQ y_decP y_decC (((pq_eb pk y_inp y_kb y_encQ b)).2.2.2.2.2) y_vec wk y_vt := by
  intro d
  induction d with
  | zero =>
    intro b en pu wk hb h1 h2 h3
    have e : b = 4 := by omega
    subst e
    have hE := pq_eb_s hp hc hk hq 4 (by omega)
    exact br_t (nI_le (a := 4) (Nat.le_refl _) (by decide)) ⟨6, py_266 5 0 _ _ (by omega) hE.1 (by omega) (by have := hE.2.1; omega) (K en pu wk h1 h3)⟩
  | succ d ih =>
    intro b en pu wk hb h1 h2 h3
    have hb4 : b < 4 := by omega
    have hE := pq_eb_s hp hc hk hq b (by omega)
    have ⟨hq2, hq3⟩ := pq_q_s hq hb4
    refine br_f (nI_ge (b := 4) (by omega) (by decide)) ⟨9, py_60 (qo := pq_k y_encQ b) hb4 ht hc hk hq2 (by rw [h2 b (Nat.le_refl _)]; exact hq3) hE (by omega) ?_ 8 0 (by omega)⟩
    intro wk' pu' g1 g2
    refine ih (b + 1) _ pu' wk' (by omega) ?_ ?_ ?_
    · intro j hj
      by_cases z : j = b
      · subst z; exact pk_us
      · rw [pk_un z]; exact h1 j (by omega)
    · intro j hj
      rw [pk_un (by omega)]
      exact h2 j (by omega)
    · intro c j hc2 hj
      by_cases z : c = b
      · subst z; exact g1 j hj
      · rw [g2 _ (by omega)]; exact h3 c j (by omega) hj
theorem py_e2 {post : Int32 → SY → Prop} (hp : pq_B y_pkt) (ht : pq_tb y_vt) (hc : pq_HC y_inp) (hk : pq_HK y_kb) (hq : pq_HQ y_encQ)
    (K : ∀ en pu wk : Nat → Int32, (∀ j, j < 4 → en j = nI (pq_q y_inp j)) → (∀ c j, c < 4 → j < 8 → pu (8 * c + j) = pq_yv y_inp c (pq_k y_kb c) j) →
      post (nI (pq_fl 5 (pq_eb (pq_clr y_pkt 64) y_inp y_kb y_encQ 4)).2.2.2.2.1) (nI ((pq_fl 5 (pq_eb (pq_clr y_pkt 64) y_inp y_kb y_encQ 4))).2.2.2.2.1, lN ((pq_fl 5 (pq_eb (pq_clr y_pkt 64) y_inp y_kb y_encQ 4))).1, lN ((pq_fl 5 (pq_eb (pq_clr y_pkt 64) y_inp y_kb y_encQ 4))).2.1, lN ((pq_fl 5 (pq_eb (pq_clr y_pkt 64) y_inp y_kb y_encQ 4))).2.2.1, nI ((pq_fl 5 (pq_eb (pq_clr y_pkt 64) y_inp y_kb y_encQ 4))).2.2.2.1, y_rpos, y_drng, y_dcode, y_dr, y_kb, y_inp, en, pu, y_decQ, y_decP, y_decC, ((pq_fl 5 (pq_eb (pq_clr y_pkt 64) y_inp y_kb y_encQ 4))).2.2.2.2.2, y_vec, wk, y_vt)) : ∀ d i, i + d = 64 →
    wY_encodeFrame_2 post y_pktLen y_low y_rng y_cache y_pending y_rpos y_drng y_dcode y_dr (d + 1) (nI i) y_kb y_inp y_encQ y_encP y_decQ y_decP y_decC (pq_clr y_pkt i) y_vec y_work y_vt := by
  intro d
  induction d with
  | zero =>
    intro i hi
    have e : i = 64 := by omega
    subst e
    exact br_t (nI_le (a := 64) (Nat.le_refl _) (by decide)) ⟨5, py_50 (pq_clr_B hp 64) ht hc hk hq K 4 0 y_encQ y_encP y_work (by omega) (fun j h => absurd h (Nat.not_lt_zero j)) (fun _ _ => rfl) (fun c _ h => absurd h (Nat.not_lt_zero c))⟩
  | succ d ih =>
    intro i hi
    exact br_f (nI_ge (b := 64) (by omega) (by decide)) ⟨vp_in_nI (by omega) (by decide), nm_r (e' := pq_clr y_pkt (i + 1)) (by rw [nI_clamp (by omega)]; rfl) (nm_r (nI_1 i) (ih (i + 1) (by omega)))⟩
theorem py_encode {post : Int32 → SY → Prop} (hp : pq_B y_pkt) (ht : pq_tb y_vt) (hc : pq_HC y_inp) (hk : pq_HK y_kb) (hq : pq_HQ y_encQ)
    (K : ∀ en pu wk : Nat → Int32, (∀ j, j < 4 → en j = nI (pq_q y_inp j)) → (∀ c j, c < 4 → j < 8 → pu (8 * c + j) = pq_yv y_inp c (pq_k y_kb c) j) →
      post (nI (pq_fl 5 (pq_eb (pq_clr y_pkt 64) y_inp y_kb y_encQ 4)).2.2.2.2.1) (nI ((pq_fl 5 (pq_eb (pq_clr y_pkt 64) y_inp y_kb y_encQ 4))).2.2.2.2.1, lN ((pq_fl 5 (pq_eb (pq_clr y_pkt 64) y_inp y_kb y_encQ 4))).1, lN ((pq_fl 5 (pq_eb (pq_clr y_pkt 64) y_inp y_kb y_encQ 4))).2.1, lN ((pq_fl 5 (pq_eb (pq_clr y_pkt 64) y_inp y_kb y_encQ 4))).2.2.1, nI ((pq_fl 5 (pq_eb (pq_clr y_pkt 64) y_inp y_kb y_encQ 4))).2.2.2.1, y_rpos, y_drng, y_dcode, y_dr, y_kb, y_inp, en, pu, y_decQ, y_decP, y_decC, ((pq_fl 5 (pq_eb (pq_clr y_pkt 64) y_inp y_kb y_encQ 4))).2.2.2.2.2, y_vec, wk, y_vt)) : wpY_encodeFrame post (y_pktLen, y_low, y_rng, y_cache, y_pending, y_rpos, y_drng, y_dcode, y_dr, y_kb, y_inp, y_encQ, y_encP, y_decQ, y_decP, y_decC, y_pkt, y_vec, y_work, y_vt) :=
  ⟨65, py_e2 hp ht hc hk hq K 64 0 (by omega)⟩
end PQB
end
section
/-! a frame, decoded -/
def pq_qf (dq pk : Nat → Int32) (le : Nat) (pc : Nat → Int32) (b : Nat) : Int32 := pq_cl ((3 * dq b + 2) / 4 + pq_rs (pq_ds (pq_db pk le pc b))) 0 33
def pq_qn (dq pk : Nat → Int32) (le : Nat) (pc : Nat → Int32) (b : Nat) : Nat := (pq_qf dq pk le pc b).toNatClampNeg
theorem pq_qf_s (dq pk : Nat → Int32) (le : Nat) (pc : Nat → Int32) (b : Nat) : pq_qf dq pk le pc b = nI (pq_qn dq pk le pc b) ∧ pq_qn dq pk le pc b ≤ 33 := by
  obtain ⟨q, h1, h2⟩ := pq_cl_s ((3 * dq b + 2) / 4 + pq_rs (pq_ds (pq_db pk le pc b)))
  have e : pq_qf dq pk le pc b = nI q := h2
  unfold pq_qn
  rw [e, nI_clamp (by omega)]
  exact ⟨rfl, h1⟩
theorem pq_M32 {q mm sq : Nat} (h1 : 1 ≤ q) (h2 : q ≤ 33) (h3 : mm ≤ sq) : 2 ^ (q - 1) * mm / sq ≤ 4294967296 ∧ 2 ^ (q - 1) ≤ 4294967296 := by
  have p : 2 ^ (q - 1) ≤ 2 ^ 32 := Nat.pow_le_pow_right (by decide) (by omega)
  have m : 2 ^ (q - 1) * mm ≤ sq * 2 ^ (q - 1) := by rw [Nat.mul_comm sq]; exact Nat.mul_le_mul_left _ h3
  have d : 2 ^ (q - 1) * mm / sq ≤ 2 ^ (q - 1) := Nat.div_le_of_le_mul m
  exact ⟨Nat.le_trans d p, p⟩
theorem pq_pw {y : Int32} {q : Nat} (h1 : 1 ≤ q) (h2 : q ≤ 33) : ((1 : Int64) <<< ((nI q - 1).toInt64 &&& 63)) * y.toInt64 * y.toInt64 = lN (2 ^ (q - 1) * (pq_mg y * pq_mg y)) := by
  rw [pq_i1 h1, Int64.mul_assoc, pq_mgL]
  show lN 1 <<< ((nI (q - 1)).toInt64 &&& 63) * _ = _
  rw [wb_shl 1 (by omega), Nat.one_mul, lN_mul]
theorem pq_pwb {q m : Nat} (h1 : 1 ≤ q) (h2 : q ≤ 33) (hm : m ≤ 16) : 2 ^ (q - 1) * (m * m) < 2 ^ 63 := by
  have p : 2 ^ (q - 1) ≤ 2 ^ 32 := Nat.pow_le_pow_right (by decide) (by omega)
  have a : m * m ≤ 16 * 16 := Nat.mul_le_mul hm hm
  have b : 2 ^ (q - 1) * (m * m) ≤ 2 ^ 32 * (16 * 16) := Nat.mul_le_mul p a
  omega
theorem pq_mg0 {y : Int32} (h : pq_mg y = 0) : y = 0 := by
  have c : ¬ y < 0 := fun z => by have := pq_mg_1 z; omega
  rw [pq_mg_p c, h]
  rfl
theorem pq_nmg0 {y : Int32} (h : ¬ y = 0) : 1 ≤ pq_mg y := by
  by_cases z : pq_mg y = 0
  · exact absurd (pq_mg0 z) h
  · omega
theorem pq_sc_0 {y : Int32} {q sq : Nat} (h : q = 0 ∨ y = 0) : pq_sc y q sq = 0 := if_pos h
theorem pq_sc_n {y : Int32} {q sq : Nat} (h1 : 1 ≤ q) (h2 : ¬ y = 0) (h3 : y < 0) : pq_sc y q sq = -nI (pq_rt (2 ^ (q - 1) * (pq_mg y * pq_mg y) / sq)) := by
  unfold pq_sc
  rw [if_neg (by intro z; cases z with | inl a => omega | inr a => exact h2 a), if_pos h3]
theorem pq_sc_p {y : Int32} {q sq : Nat} (h1 : 1 ≤ q) (h2 : ¬ y = 0) (h3 : ¬ y < 0) : pq_sc y q sq = nI (pq_rt (2 ^ (q - 1) * (pq_mg y * pq_mg y) / sq)) := by
  unfold pq_sc
  rw [if_neg (by intro z; cases z with | inl a => omega | inr a => exact h2 a), if_neg h3]
theorem pq_clN {X V : Nat} (h1 : 1 ≤ V) (hX : X < 2 ^ 31) (hV : V < 2 ^ 31) : pq_cl (nI X) 0 (nI (V - 1)) = nI (if V - 1 < X then V - 1 else X) := by
  unfold pq_cl
  rw [if_neg (nI_pos hX)]
  by_cases c : V - 1 < X
  · rw [if_pos c, if_pos (nI_lt c hX)]
  · rw [if_neg c, if_neg (nI_nlt (by omega) (by omega))]
theorem pq_hlo {h ap l V : Nat} (h1 : h ≤ 65535) (h2 : ap ≤ 8) (h3 : l < 2 ^ ap) : h * 2 ^ ap + l < 2 ^ 26 ∧ h * 2 ^ ap < 2 ^ 26 := by
  have p : 2 ^ ap ≤ 2 ^ 8 := Nat.pow_le_pow_right (by decide) h2
  have m : h * 2 ^ ap ≤ 65535 * 2 ^ 8 := Nat.mul_le_mul h1 p
  omega
theorem pq_shlV {a ap : Nat} (h : a * 2 ^ ap < 2 ^ 26) (hp : ap ≤ 8) : nI a <<< (nI ap &&& 31) = nI (a * 2 ^ ap) := pk_shlN _ _ (s_l ap (by omega)) (by omega)
section PQX
variable {x_length x_cache x_pending x_readPosition : Int32} {x_low x_encoderRange x_decoderRange x_code x_decoderStep : Int64} {x_pulseCounts x_coefs x_energies x_pulses x_decoded x_vec x_sizes x_packet : Nat → Int32}
variable {y_pktLen y_pending y_rpos : Int32} {y_low y_rng y_cache y_drng y_dcode y_dr : Int64} {y_kb y_inp y_encQ y_encP y_decQ y_decP y_decC y_pkt y_vec y_work y_vt : Nat → Int32}
variable {b : Nat} {pk : Nat → Int32} {le : Nat}
theorem px_67 {post : SX → Prop} {k r : Nat} (hb : b < 4) (ht : pq_tb x_sizes) (hk : k ≤ 16) (hr : r < pq_V 8 k)
    (K : ∀ p : Nat → Int32, (∀ t, t < 8 → p (32 + 8 * b + t) = pq_y 8 k r t) → (∀ j, (j < 32 + 8 * b ∨ 32 + 8 * b + 8 ≤ j) → p j = x_pulses j) → post (x_length, x_low, x_encoderRange, x_cache, x_pending, x_readPosition, x_decoderRange, x_code, x_decoderStep, x_pulseCounts, x_coefs, x_energies, p, x_decoded, x_vec, x_sizes, x_packet)) : wX_decodePulses_67 post (nI b) (nI k) (nI r) x_length x_low x_encoderRange x_cache x_pending x_readPosition x_decoderRange x_code x_decoderStep x_pulseCounts x_coefs x_energies x_pulses x_decoded x_vec x_sizes x_packet := by
  unfold wX_decodePulses_67
  refine px_pulsesun (fr := 32 + 8 * b) (n := 8) (k := k) (r := r) ht (by omega) (by omega) hk hr ?_ rfl rfl rfl K
  rw [pq_b8, show (32 : Int32) = nI 32 from rfl, nI_add]
theorem px_dp {post : SX → Prop} {B : Nat} {d : pq_D} (hb : b < 4) (hB : pq_B pk) (hl : le ≤ 64) (ht : pq_tb x_sizes) (hk : pq_HK x_pulseCounts) (hD : pq_DI B d) (hBB : B + 4 < 2 ^ 20)
    (K : ∀ (ds : Int64) (p : Nat → Int32), (∀ t, t < 8 → p (32 + 8 * b + t) = pq_y 8 (pq_k x_pulseCounts b) (pq_dp pk le d (pq_k x_pulseCounts b)).1 t) → (∀ j, (j < 32 + 8 * b ∨ 32 + 8 * b + 8 ≤ j) → p j = x_pulses j) →
      post (nI le, x_low, x_encoderRange, x_cache, x_pending, nI (((pq_dp pk le d (pq_k x_pulseCounts b)).2)).1, lN (((pq_dp pk le d (pq_k x_pulseCounts b)).2)).2.1, lN (((pq_dp pk le d (pq_k x_pulseCounts b)).2)).2.2, ds, x_pulseCounts, x_coefs, x_energies, p, x_decoded, x_vec, x_sizes, pk)) : wpX_decodePulses post (nI le, x_low, x_encoderRange, x_cache, x_pending, nI d.1, lN d.2.1, lN d.2.2, x_decoderStep, x_pulseCounts, x_coefs, x_energies, x_pulses, x_decoded, x_vec, x_sizes, pk) (nI b) := by
  have ⟨k1, k2, k3⟩ := pq_k_s hk hb
  have hV := pq_Vle (n := 8) (k := pq_k x_pulseCounts b) (by omega) k2
  have hp := pq_Vpos (pq_k x_pulseCounts b) (by omega)
  have ⟨hx, _⟩ := pq_dp_s pk le hD k2
  generalize pq_k x_pulseCounts b = k at *
  refine ⟨vp_in_nI hb (by decide), nm_r (e' := nI k) (by rw [nI_clamp (by omega)]; exact k3) (px_size (n := 8) (k := k) ht (by omega) k2 rfl rfl (px_low k2 rfl ?_))⟩
  unfold pq_dp at K hx
  by_cases c : pq_V 8 k ≤ 65536
  · rw [if_pos c] at K hx
    have a0 : pq_ap k = 0 := if_pos c
    rw [a0]
    have et : (nI (pq_V 8 k) - 1) >>> (nI 0 &&& 31) + 1 = nI (pq_V 8 k) := by
      rw [pq_i1 hp, pq_shV (by omega) (by omega), nI_1, Nat.pow_zero, Nat.div_one, Nat.sub_add_cancel hp]
    refine px_du hB hl hD (by omega) hp c et (br_t (by decide) (px_67 hb ht k2 hx ?_))
    intro p g1 g2
    exact K _ p g1 g2
  · rw [if_neg c] at K hx
    have ⟨a1, a2, a3, a4⟩ := pq_ap_s k (by omega) (by omega)
    have ⟨p1, p2⟩ := pq_ap_p _ a2
    have et : (nI (pq_V 8 k) - 1) >>> (nI (pq_ap k) &&& 31) + 1 = nI ((pq_V 8 k - 1) / 2 ^ pq_ap k + 1) := by
      rw [pq_i1 hp, pq_shV (by omega) a2, nI_1]
    have hv := pq_dv_lt (d := d) (total := (pq_V 8 k - 1) / 2 ^ pq_ap k + 1) (Nat.succ_pos _)
    have D1 := pq_dc_s pk le (total := (pq_V 8 k - 1) / 2 ^ pq_ap k + 1) (start := pq_dv d ((pq_V 8 k - 1) / 2 ^ pq_ap k + 1)) hD (Nat.succ_pos _) a3 (Nat.le_refl 1) (Nat.succ_pos _)
    have hv2 := pq_dv_lt (d := pq_dc pk le d ((pq_V 8 k - 1) / 2 ^ pq_ap k + 1) (pq_dv d ((pq_V 8 k - 1) / 2 ^ pq_ap k + 1)) 1) (total := 2 ^ pq_ap k) p1
    have ⟨l1, l2⟩ := pq_hlo (V := 0) (Nat.le_of_lt_succ (Nat.lt_of_lt_of_le hv a3)) a2 hv2
    refine px_du (total := (pq_V 8 k - 1) / 2 ^ pq_ap k + 1) hB hl hD (by omega) (Nat.succ_pos _) a3 et (br_f (nI_nle (by omega) (by omega)) (px_du hB hl D1 (by omega) p1 (Nat.le_trans p2 (by decide)) (pq_p2 _ a2) (px_clamp ?_)))
    rw [pq_shlV l2 a2, nI_add, pq_i1 hp, pq_clN hp (by omega) (by omega)]
    refine px_67 hb ht k2 hx ?_
    intro p g1 g2
    exact K _ p g1 g2
theorem px_sp {post : Int32 → Prop} {y : Int32} {q sq : Nat} (hq : q ≤ 33) (hy : pq_mg y ≤ 16) (hs : pq_mg y * pq_mg y ≤ sq) (hs2 : sq < 2 ^ 31) (h : post (pq_sc y q sq)) : wpX_scaledPulse post y (nI q) (lN sq) := by
  by_cases z : q = 0
  · rw [pq_sc_0 (Or.inl z)] at h
    exact br_t (by rw [z]; rfl) h
  · refine br_f (nI_ne0 (by omega) (by omega)) ?_
    by_cases w : y = 0
    · rw [pq_sc_0 (Or.inr w)] at h
      exact br_t w h
    · have m1 := pq_nmg0 w
      have m2 : 1 ≤ pq_mg y * pq_mg y := Nat.mul_pos m1 m1
      have ⟨M1, M2⟩ := pq_M32 (q := q) (by omega) hq hs
      refine br_f w (nm_r (pq_pw (by omega) hq) (px_quo rfl rfl (pq_pwb (by omega) hq hy) (by omega) (by omega) (px_sq rfl (by omega) ?_)))
      by_cases c : y < 0
      · rw [pq_sc_n (by omega) w c] at h
        exact br_f (pq_nle0 c) h
      · rw [pq_sc_p (by omega) w c] at h
        exact br_t (pq_nlt0 c) h
theorem px_52 {post : SX → Prop} {Y : Nat → Int32} {q sq : Nat} (hb : b < 4) (hq : q ≤ 33) (hY : ∀ t, t < 8 → x_pulses (32 + 8 * b + t) = Y t) (hm : ∀ t, t < 8 → pq_mg (Y t) ≤ 16) (hs : ∀ t, t < 8 → pq_mg (Y t) * pq_mg (Y t) ≤ sq) (hs2 : sq < 2 ^ 31)
    (K : ∀ de : Nat → Int32, (∀ j, j < 8 → de (8 * b + j) = pq_sc (Y j) q sq) → (∀ i, (i < 8 * b ∨ 8 * b + 8 ≤ i) → de i = x_decoded i) → post (x_length, x_low, x_encoderRange, x_cache, x_pending, x_readPosition, x_decoderRange, x_code, x_decoderStep, x_pulseCounts, x_coefs, x_energies, x_pulses, de, x_vec, x_sizes, x_packet)) : ∀ d j (de : Nat → Int32), j + d = 8 → (∀ t, t < j → de (8 * b + t) = pq_sc (Y t) q sq) → (∀ i, (i < 8 * b ∨ 8 * b + 8 ≤ i) → de i = x_decoded i) →
    wX_scaleBand_52 post (nI q) (nI (8 * b)) (lN sq) x_length x_low x_encoderRange x_cache x_pending x_readPosition x_decoderRange x_code x_decoderStep (d + 1) (nI j) x_pulseCounts x_coefs x_energies x_pulses de x_vec x_sizes x_packet := by
  intro d
  induction d with
  | zero =>
    intro j de hj h1 h2
    have e : j = 8 := by omega
    subst e
    exact br_t (nI_le (a := 8) (Nat.le_refl _) (by decide)) (K de h1 h2)
  | succ d ih =>
    intro j de hj h1 h2
    have e1 : 32 + nI (8 * b) + nI j = nI (32 + 8 * b + j) := by rw [show (32 : Int32) = nI 32 from rfl, nI_add, nI_add]
    refine br_f (nI_ge (b := 8) (by omega) (by decide)) ⟨pk_in (32 + 8 * b + j) 64 (by omega) e1, nm_r (e' := Y j) (by rw [e1, nI_clamp (by omega), hY j (by omega)]) (px_sp hq (hm j (by omega)) (hs j (by omega)) hs2 ⟨pk_in (8 * b + j) 32 (by omega) (nI_add _ _), nm_r (e' := upd de (8 * b + j) (pq_sc (Y j) q sq)) (by rw [nI_add, nI_clamp (by omega)]) (nm_r (nI_1 j) (ih (j + 1) _ (by omega) ?_ ?_))⟩)⟩
    · intro t ht
      by_cases z : t = j
      · subst z; exact pk_us
      · rw [pk_un (by omega)]; exact h1 t (by omega)
    · intro i hi
      rw [pk_un (by omega)]
      exact h2 i hi
theorem px_11 {post : SX → Prop} {Y : Nat → Int32} {q : Nat} (hb : b < 4) (hq : q ≤ 33) (hY : ∀ t, t < 8 → x_pulses (32 + 8 * b + t) = Y t) (hm : ∀ t, t < 8 → pq_mg (Y t) ≤ 16)
    (K : ∀ de : Nat → Int32, (∀ j, j < 8 → de (8 * b + j) = pq_sc (Y j) q (pq_S (fun j => pq_mg (Y j) * pq_mg (Y j)) 8)) → (∀ i, (i < 8 * b ∨ 8 * b + 8 ≤ i) → de i = x_decoded i) → post (x_length, x_low, x_encoderRange, x_cache, x_pending, x_readPosition, x_decoderRange, x_code, x_decoderStep, x_pulseCounts, x_coefs, x_energies, x_pulses, de, x_vec, x_sizes, x_packet)) : ∀ d j, j + d = 8 →
    wX_scaleBand_11 post (nI q) (nI (8 * b)) x_length x_low x_encoderRange x_cache x_pending x_readPosition x_decoderRange x_code x_decoderStep x_pulseCounts x_coefs x_energies x_pulses x_decoded x_vec x_sizes x_packet (d + 1) (lN (pq_S (fun j => pq_mg (Y j) * pq_mg (Y j)) j)) (nI j) := by
  have hS : pq_S (fun j => pq_mg (Y j) * pq_mg (Y j)) 8 ≤ 8 * (16 * 16) := pq_S_le _ _ 8 (fun j hj => Nat.mul_le_mul (hm j hj) (hm j hj))
  intro d
  induction d with
  | zero =>
    intro j hj
    have e : j = 8 := by omega
    subst e
    exact br_t (nI_le (a := 8) (Nat.le_refl _) (by decide)) ⟨9, px_52 hb hq hY hm (fun t ht => pq_S_ge (fun j => pq_mg (Y j) * pq_mg (Y j)) ht) (by omega) K 8 0 x_decoded (by omega) (fun t h => absurd h (Nat.not_lt_zero t)) (fun _ _ => rfl)⟩
  | succ d ih =>
    intro j hj
    have e1 : 32 + nI (8 * b) + nI j = nI (32 + 8 * b + j) := by rw [show (32 : Int32) = nI 32 from rfl, nI_add, nI_add]
    refine br_f (nI_ge (b := 8) (by omega) (by decide)) ⟨pk_in (32 + 8 * b + j) 64 (by omega) e1, nm_r (e' := (Y j).toInt64) (by rw [e1, nI_clamp (by omega), hY j (by omega)]) (nm_r ?_ (nm_r (nI_1 j) (ih (j + 1) (by omega))))⟩
    rw [pq_mgL, lN_add]
    rfl
theorem px_scale {post : SX → Prop} {Y : Nat → Int32} {q : Nat} {p1 : Int32} (e1 : p1 = nI q) (hb : b < 4) (hq : q ≤ 33) (hY : ∀ t, t < 8 → x_pulses (32 + 8 * b + t) = Y t) (hm : ∀ t, t < 8 → pq_mg (Y t) ≤ 16)
    (K : ∀ de : Nat → Int32, (∀ j, j < 8 → de (8 * b + j) = pq_sc (Y j) q (pq_S (fun j => pq_mg (Y j) * pq_mg (Y j)) 8)) → (∀ i, (i < 8 * b ∨ 8 * b + 8 ≤ i) → de i = x_decoded i) → post (x_length, x_low, x_encoderRange, x_cache, x_pending, x_readPosition, x_decoderRange, x_code, x_decoderStep, x_pulseCounts, x_coefs, x_energies, x_pulses, de, x_vec, x_sizes, x_packet)) : wpX_scaleBand post (x_length, x_low, x_encoderRange, x_cache, x_pending, x_readPosition, x_decoderRange, x_code, x_decoderStep, x_pulseCounts, x_coefs, x_energies, x_pulses, x_decoded, x_vec, x_sizes, x_packet) (nI b) p1 := by
  subst e1
  exact nm_r (pq_b8 b) ⟨9, px_11 hb hq hY hm K 8 0 (by omega)⟩
/-- what a frame decodes to, bands below n -/
def pq_fin (dq pk : Nat → Int32) (le : Nat) (pc : Nat → Int32) (n : Nat) (en pu de : Nat → Int32) : Prop :=
  (∀ c, c < n → en c = pq_qf dq pk le pc c) ∧ (∀ c j, c < n → j < 8 → pu (8 * c + j) = pq_y 8 (pq_k pc c) (pq_xi pk le pc c) j) ∧
  (∀ c j, c < n → j < 8 → de (8 * c + j) = pq_sc (pq_y 8 (pq_k pc c) (pq_xi pk le pc c) j) (pq_qn dq pk le pc c) (pq_z 8 (pq_k pc c) (pq_xi pk le pc c)))
theorem px_d6 {post : SX → Prop} (hB : pq_B pk) (hl : le ≤ 64) (ht : pq_tb x_sizes) (hk : pq_HK x_pulseCounts)
    (K : ∀ (ds : Int64) (en pu de : Nat → Int32), pq_fin (fun j => x_energies (4 + j)) pk le x_pulseCounts 4 (fun j => en (4 + j)) (fun j => pu (32 + j)) de → (∀ j, j < 4 → en j = x_energies j) → (∀ i, i < 32 → pu i = x_pulses i) →
      post (nI le, x_low, x_encoderRange, x_cache, x_pending, nI ((pq_db pk le x_pulseCounts 4)).1, lN ((pq_db pk le x_pulseCounts 4)).2.1, lN ((pq_db pk le x_pulseCounts 4)).2.2, ds, x_pulseCounts, x_coefs, en, pu, de, x_vec, x_sizes, pk)) :
    ∀ d b (ds : Int64) (en pu de : Nat → Int32), b + d = 4 → pq_fin (fun j => x_energies (4 + j)) pk le x_pulseCounts b (fun j => en (4 + j)) (fun j => pu (32 + j)) de → (∀ j, (j < 4 ∨ 4 + b ≤ j) → en j = x_energies j) → (∀ i, i < 32 → pu i = x_pulses i) →
    wX_decodeFrame_6 post (d + 1) (nI b) (nI le) x_low x_encoderRange x_cache x_pending (nI ((pq_db pk le x_pulseCounts b)).1) (lN ((pq_db pk le x_pulseCounts b)).2.1) (lN ((pq_db pk le x_pulseCounts b)).2.2) ds x_pulseCounts x_coefs en pu de x_vec x_sizes pk := by
  intro d
  induction d with
  | zero =>
    intro b ds en pu de hb h1 h2 h3
    have e : b = 4 := by omega
    subst e
    exact br_t (nI_le (a := 4) (Nat.le_refl _) (by decide)) (K ds en pu de h1 (fun j hj => h2 j (Or.inl hj)) h3)
  | succ d ih =>
    intro b ds en pu de hb h1 h2 h3
    have hb4 : b < 4 := by omega
    have hD := pq_db_s pk le hk b (by omega)
    have hD2 := pq_de_s pk le hD
    have ⟨k1, k2, k3⟩ := pq_k_s hk hb4
    have hx := pq_xi_lt pk le hk hb4
    have ⟨q1, q2⟩ := pq_qf_s (fun j => x_energies (4 + j)) pk le x_pulseCounts b
    have e4 : 4 + nI b = nI (4 + b) := nI_add 4 b
    refine br_f (nI_ge (b := 4) (by omega) (by decide)) ⟨pk_in (4 + b) 8 (by omega) e4, ⟨by decide, ?_⟩⟩
    rw [e4, nI_clamp (by omega), h2 (4 + b) (Or.inr (Nat.le_refl _))]
    refine px_de hB hl hD (by omega) (px_clamp (px_dp hb4 hB hl ht hk hD2 (by omega) ?_))
    intro ds' pu' g1 g2
    refine ⟨vp_in_nI (by omega) (by decide), nm_r (e' := upd en (4 + b) (pq_qf (fun j => x_energies (4 + j)) pk le x_pulseCounts b)) rfl ?_⟩
    refine px_scale (Y := pq_y 8 (pq_k x_pulseCounts b) (pq_xi pk le x_pulseCounts b)) q1 hb4 q2 g1 (fun t ht => pq_y_mg (by omega) k2 hx ht) ?_
    intro de' f1 f2
    refine nm_r (nI_1 b) (ih (b + 1) ds' _ pu' de' (by omega) ⟨?_, ?_, ?_⟩ ?_ ?_)
    · intro c hc
      by_cases z : c = b
      · subst z; exact pk_us
      · show upd en (4 + b) _ (4 + c) = _
        rw [pk_un (by omega)]; exact h1.1 c (by omega)
    · intro c j hc hj
      by_cases z : c = b
      · subst z
        have := g1 j hj
        rw [Nat.add_assoc] at this
        exact this
      · show pu' (32 + (8 * c + j)) = _
        rw [g2 _ (by omega)]; exact h1.2.1 c j (by omega) hj
    · intro c j hc hj
      by_cases z : c = b
      · subst z; exact f1 j hj
      · rw [f2 _ (by omega)]; exact h1.2.2 c j (by omega) hj
    · intro j hj
      rw [pk_un (by omega)]
      exact h2 j (by omega)
    · intro i hi
      rw [g2 i (by omega)]
      exact h3 i hi
theorem px_decode {post : SX → Prop} (hB : pq_B pk) (hl : le ≤ 64) (ht : pq_tb x_sizes) (hk : pq_HK x_pulseCounts)
    (K : ∀ (ds : Int64) (en pu de : Nat → Int32), pq_fin (fun j => x_energies (4 + j)) pk le x_pulseCounts 4 (fun j => en (4 + j)) (fun j => pu (32 + j)) de → (∀ j, j < 4 → en j = x_energies j) → (∀ i, i < 32 → pu i = x_pulses i) →
      post (nI le, x_low, x_encoderRange, x_cache, x_pending, nI ((pq_db pk le x_pulseCounts 4)).1, lN ((pq_db pk le x_pulseCounts 4)).2.1, lN ((pq_db pk le x_pulseCounts 4)).2.2, ds, x_pulseCounts, x_coefs, en, pu, de, x_vec, x_sizes, pk)) : wpX_decodeFrame post (nI le, x_low, x_encoderRange, x_cache, x_pending, x_readPosition, x_decoderRange, x_code, x_decoderStep, x_pulseCounts, x_coefs, x_energies, x_pulses, x_decoded, x_vec, x_sizes, pk) := by
  unfold wpX_decodeFrame
  dsimp only
  refine px_sd hB hl ⟨5, ?_⟩
  exact px_d6 hB hl ht hk K 4 0 x_decoderStep x_energies x_pulses x_decoded (by omega) ⟨fun c h => absurd h (Nat.not_lt_zero c), fun c _ h => absurd h (Nat.not_lt_zero c), fun c _ h => absurd h (Nat.not_lt_zero c)⟩ (fun _ _ => rfl) (fun _ _ => rfl)
end PQX
end
section
/-! a frame, decoded by the reference -/
theorem pq_z_le {k r : Nat} (hk : k ≤ 16) (hr : r < pq_V 8 k) : pq_z 8 k r ≤ 8 * (16 * 16) :=
  pq_S_le _ _ 8 (fun j hj => Nat.mul_le_mul (pq_y_mg (by omega) hk hr hj) (pq_y_mg (by omega) hk hr hj))
section PQY
variable {x_length x_cache x_pending x_readPosition : Int32} {x_low x_encoderRange x_decoderRange x_code x_decoderStep : Int64} {x_pulseCounts x_coefs x_energies x_pulses x_decoded x_vec x_sizes x_packet : Nat → Int32}
variable {y_pktLen y_pending y_rpos : Int32} {y_low y_rng y_cache y_drng y_dcode y_dr : Int64} {y_kb y_inp y_encQ y_encP y_decQ y_decP y_decC y_pkt y_vec y_work y_vt : Nat → Int32}
variable {b : Nat} {pk : Nat → Int32} {le : Nat}
variable {J : Int32 → Int32 → Int64 → Int64 → Int64 → Int32 → Int32 → Int64 → Int64 → Int64 → (Nat → Int32) → (Nat → Int32) → (Nat → Int32) → (Nat → Int32) → (Nat → Int32) → (Nat → Int32) → (Nat → Int32) → (Nat → Int32) → (Nat → Int32) → (Nat → Int32) → (Nat → Int32) → Prop}
theorem py_423 {post : SY → Prop} {Y : Nat → Int32} {q sq : Nat} (hb : b < 4) (hq : q ≤ 33) (hY : ∀ t, t < 8 → y_work t = Y t) (hm : ∀ t, t < 8 → pq_mg (Y t) ≤ 16) (hs : ∀ t, t < 8 → pq_mg (Y t) * pq_mg (Y t) ≤ sq) (hs1 : 1 ≤ sq) (hs2 : sq < 2 ^ 31)
    (K : ∀ de : Nat → Int32, (∀ j, j < 8 → de (8 * b + j) = pq_sc (Y j) q sq) → (∀ i, (i < 8 * b ∨ 8 * b + 8 ≤ i) → de i = y_decC i) → J (nI (b + 1)) y_pktLen y_low y_rng y_cache y_pending y_rpos y_drng y_dcode y_dr y_kb y_inp y_encQ y_encP y_decQ y_decP de y_pkt y_vec y_work y_vt) : ∀ d j (de : Nat → Int32), j + d = 8 → (∀ t, t < j → de (8 * b + t) = pq_sc (Y t) q sq) → (∀ i, (i < 8 * b ∨ 8 * b + 8 ≤ i) → de i = y_decC i) →
    wY_decodeFrame_423 post J (nI b) (nI q) (lN sq) y_pktLen y_low y_rng y_cache y_pending y_rpos y_drng y_dcode y_dr (d + 1) (nI j) y_kb y_inp y_encQ y_encP y_decQ y_decP de y_pkt y_vec y_work y_vt := by
  intro d
  induction d with
  | zero =>
    intro j de hj h1 h2
    have e : j = 8 := by omega
    subst e
    exact br_t (nI_le (a := 8) (Nat.le_refl _) (by decide)) (nm_r (nI_1 b) (K de h1 h2))
  | succ d ih =>
    intro j de hj h1 h2
    have IH : ∀ z, z = pq_sc (Y j) q sq → wY_decodeFrame_423 post J (nI b) (nI q) (lN sq) y_pktLen y_low y_rng y_cache y_pending y_rpos y_drng y_dcode y_dr (d + 1) (nI (j + 1)) y_kb y_inp y_encQ y_encP y_decQ y_decP (upd de (8 * b + j) z) y_pkt y_vec y_work y_vt := by
      intro z hz
      refine ih (j + 1) _ (by omega) ?_ ?_
      · intro t ht
        by_cases e : t = j
        · subst e; rw [pk_us, hz]
        · rw [pk_un (by omega)]; exact h1 t (by omega)
      · intro i hi
        rw [pk_un (by omega)]
        exact h2 i hi
    have i1 : vp_in (8 * nI b + nI j) 32 := pk_in (8 * b + j) 32 (by omega) (pq_8i _ _)
    have i2 : (8 * nI b + nI j).toNatClampNeg = 8 * b + j := by rw [pq_8i, nI_clamp (by omega)]
    refine br_f (nI_ge (b := 8) (by omega) (by decide)) ⟨vp_in_nI (by omega) (by decide), nm_r (e' := Y j) (by rw [nI_clamp (by omega), hY j (by omega)]) ?_⟩
    by_cases z : q = 0
    · exact br_t (by rw [z]; rfl) ⟨i1, nm_r (e' := upd de (8 * b + j) 0) (by rw [i2]) (nm_r (nI_1 j) (IH 0 (pq_sc_0 (Or.inl z)).symm))⟩
    · refine br_f (nI_ne0 (by omega) (by omega)) ?_
      by_cases w : Y j = 0
      · exact br_t w ⟨i1, nm_r (e' := upd de (8 * b + j) 0) (by rw [i2]) (nm_r (nI_1 j) (IH 0 (pq_sc_0 (Or.inr w)).symm))⟩
      · have ⟨M1, M2⟩ := pq_M32 (q := q) (by omega) hq (hs j (by omega))
        refine br_f w ⟨pq_ln0 hs1 (by omega), nm_r (e' := lN (2 ^ (q - 1) * (pq_mg (Y j) * pq_mg (Y j)) / sq)) ?_ (py_sq rfl M1 ?_)⟩
        · rw [pq_pw (by omega) hq, pk_lDiv (pq_pwb (by omega) hq (hm j (by omega))) hs1 (by omega)]
        · by_cases c : Y j < 0
          · refine br_f (pq_nle0 c) ⟨i1, nm_e (nm_r (nI_1 j) ?_)⟩
            rw [i2]
            refine IH _ ?_
            rw [pq_sc_n (by omega) w c, lN_i]
          · refine br_t (pq_nlt0 c) ⟨i1, nm_e (nm_r (nI_1 j) ?_)⟩
            rw [i2]
            refine IH _ ?_
            rw [pq_sc_p (by omega) w c, lN_i]
theorem py_356 {post : SY → Prop} {Y : Nat → Int32} {q : Nat} (hb : b < 4) (hq : q ≤ 33) (hY : ∀ t, t < 8 → y_work t = Y t) (hm : ∀ t, t < 8 → pq_mg (Y t) ≤ 16)
    (K : ∀ pu de : Nat → Int32, (∀ j, j < 8 → pu (8 * b + j) = Y j) → (∀ i, (i < 8 * b ∨ 8 * b + 8 ≤ i) → pu i = y_decP i) → (∀ j, j < 8 → de (8 * b + j) = pq_sc (Y j) q (pq_S (fun j => pq_mg (Y j) * pq_mg (Y j)) 8)) → (∀ i, (i < 8 * b ∨ 8 * b + 8 ≤ i) → de i = y_decC i) → J (nI (b + 1)) y_pktLen y_low y_rng y_cache y_pending y_rpos y_drng y_dcode y_dr y_kb y_inp y_encQ y_encP y_decQ pu de y_pkt y_vec y_work y_vt) : ∀ d j (pu : Nat → Int32), j + d = 8 → (∀ t, t < j → pu (8 * b + t) = Y t) → (∀ i, (i < 8 * b ∨ 8 * b + 8 ≤ i) → pu i = y_decP i) →
    wY_decodeFrame_356 post J (nI b) (nI q) y_pktLen y_low y_rng y_cache y_pending y_rpos y_drng y_dcode y_dr (d + 1) (lN (pq_S (fun j => pq_mg (Y j) * pq_mg (Y j)) j)) (nI j) y_kb y_inp y_encQ y_encP y_decQ pu y_decC y_pkt y_vec y_work y_vt := by
  have hS : pq_S (fun j => pq_mg (Y j) * pq_mg (Y j)) 8 ≤ 8 * (16 * 16) := pq_S_le _ _ 8 (fun j hj => Nat.mul_le_mul (hm j hj) (hm j hj))
  have hG : ∀ t, t < 8 → pq_mg (Y t) * pq_mg (Y t) ≤ pq_S (fun j => pq_mg (Y j) * pq_mg (Y j)) 8 := fun t ht => pq_S_ge (fun j => pq_mg (Y j) * pq_mg (Y j)) ht
  intro d
  induction d with
  | zero =>
    intro j pu hj h1 h2
    have e : j = 8 := by omega
    subst e
    refine br_t (nI_le (a := 8) (Nat.le_refl _) (by decide)) ?_
    by_cases z : 1 ≤ pq_S (fun j => pq_mg (Y j) * pq_mg (Y j)) 8
    · exact br_t (pq_l1 z (by omega)) ⟨9, py_423 hb hq hY hm hG z (by omega) (fun de g1 g2 => K pu de h1 h2 g1 g2) 8 0 y_decC (by omega) (fun t h => absurd h (Nat.not_lt_zero t)) (fun _ _ => rfl)⟩
    · have z0 : pq_S (fun j => pq_mg (Y j) * pq_mg (Y j)) 8 = 0 := by omega
      have hY0 : ∀ t, t < 8 → Y t = 0 := by
        intro t ht
        apply pq_mg0
        have := hG t ht
        by_cases w : pq_mg (Y t) = 0
        · exact w
        · have m : 1 ≤ pq_mg (Y t) * pq_mg (Y t) := Nat.mul_pos (by omega) (by omega)
          omega
      refine br_f ?_ ⟨9, py_423 (sq := 1) hb hq hY hm (fun t ht => by have := hG t ht; omega) (Nat.le_refl _) (by decide) (fun de g1 g2 => K pu de h1 h2 (fun j hj => ?_) g2) 8 0 y_decC (by omega) (fun t h => absurd h (Nat.not_lt_zero t)) (fun _ _ => rfl)⟩
      · rw [z0]; decide
      · rw [g1 j hj, pq_sc_0 (Or.inr (hY0 j hj)), pq_sc_0 (Or.inr (hY0 j hj))]
  | succ d ih =>
    intro j pu hj h1 h2
    have i1 : vp_in (8 * nI b + nI j) 32 := pk_in (8 * b + j) 32 (by omega) (pq_8i _ _)
    have i2 : (8 * nI b + nI j).toNatClampNeg = 8 * b + j := by rw [pq_8i, nI_clamp (by omega)]
    have i3 : vp_in (nI j) 8 := vp_in_nI (by omega) (by decide)
    refine br_f (nI_ge (b := 8) (by omega) (by decide)) ⟨i3, i1, nm_r (e' := upd pu (8 * b + j) (Y j)) (by rw [i2, nI_clamp (by omega), hY j (by omega)]) ⟨i3, i3, nm_r (e' := lN (pq_S (fun j => pq_mg (Y j) * pq_mg (Y j)) (j + 1))) ?_ (nm_r (nI_1 j) (ih (j + 1) _ (by omega) ?_ ?_))⟩⟩
    · rw [nI_clamp (by omega), hY j (by omega), pq_mgL, lN_add]
      rfl
    · intro t ht
      by_cases z : t = j
      · subst z; exact pk_us
      · rw [pk_un (by omega)]; exact h1 t (by omega)
    · intro i hi
      rw [pk_un (by omega)]
      exact h2 i hi
theorem py_328 {post : SY → Prop} {q r : Nat} (hb : b < 4) (ht : pq_tb y_vt) (hk : pq_HK y_kb) (hq : q ≤ 33) (hr : r < pq_V 8 (pq_k y_kb b))
    (K : ∀ pu de wk : Nat → Int32, (∀ j, j < 8 → pu (8 * b + j) = pq_y 8 (pq_k y_kb b) r j) → (∀ i, (i < 8 * b ∨ 8 * b + 8 ≤ i) → pu i = y_decP i) → (∀ j, j < 8 → de (8 * b + j) = pq_sc (pq_y 8 (pq_k y_kb b) r j) q (pq_z 8 (pq_k y_kb b) r)) → (∀ i, (i < 8 * b ∨ 8 * b + 8 ≤ i) → de i = y_decC i) → J (nI (b + 1)) y_pktLen y_low y_rng y_cache y_pending y_rpos y_drng y_dcode y_dr y_kb y_inp y_encQ y_encP (upd y_decQ b (nI q)) pu de y_pkt y_vec wk y_vt) :
    wY_decodeFrame_328 post J (nI b) (nI q) (nI r) y_pktLen y_low y_rng y_cache y_pending y_rpos y_drng y_dcode y_dr y_kb y_inp y_encQ y_encP y_decQ y_decP y_decC y_pkt y_vec y_work y_vt := by
  have ⟨k1, k2, k3⟩ := pq_k_s hk hb
  refine ⟨vp_in_nI hb (by decide), ?_⟩
  rw [nI_clamp (by omega), k3]
  refine py_un (n := 8) (k := pq_k y_kb b) (r := r) ht (by omega) k2 hr rfl rfl rfl ?_
  intro wk g1 g2
  refine ⟨vp_in_nI hb (by decide), nm_r (e' := upd y_decQ b (nI q)) rfl ⟨9, ?_⟩⟩
  exact py_356 (Y := pq_y 8 (pq_k y_kb b) r) hb hq g1 (fun t ht => pq_y_mg (by omega) k2 hr ht) (fun pu de a1 a2 a3 a4 => K pu de wk a1 a2 a3 a4) 8 0 y_decP (by omega) (fun t h => absurd h (Nat.not_lt_zero t)) (fun _ _ => rfl)
theorem py_186 {post : SY → Prop} {B q : Nat} {d : pq_D} {x2 z0 : Int32} (hb : b < 4) (hB : pq_B pk) (hl : le ≤ 64) (ht : pq_tb y_vt) (hk : pq_HK y_kb) (hD : pq_DI B d) (hBB : B + 4 < 2 ^ 20) (hq : pq_cl (x2 + z0) 0 33 = nI q) (hq2 : q ≤ 33)
    (K : ∀ (dr : Int64) (pu de wk : Nat → Int32), (∀ j, j < 8 → pu (8 * b + j) = pq_y 8 (pq_k y_kb b) (pq_dp pk le d (pq_k y_kb b)).1 j) → (∀ i, (i < 8 * b ∨ 8 * b + 8 ≤ i) → pu i = y_decP i) → (∀ j, j < 8 → de (8 * b + j) = pq_sc (pq_y 8 (pq_k y_kb b) (pq_dp pk le d (pq_k y_kb b)).1 j) q (pq_z 8 (pq_k y_kb b) (pq_dp pk le d (pq_k y_kb b)).1)) → (∀ i, (i < 8 * b ∨ 8 * b + 8 ≤ i) → de i = y_decC i) →
      J (nI (b + 1)) (nI le) y_low y_rng y_cache y_pending (nI (((pq_dp pk le d (pq_k y_kb b)).2)).1) (lN (((pq_dp pk le d (pq_k y_kb b)).2)).2.1) (lN (((pq_dp pk le d (pq_k y_kb b)).2)).2.2) dr y_kb y_inp y_encQ y_encP (upd y_decQ b (nI q)) pu de pk y_vec wk y_vt) :
    wY_decodeFrame_186 post J (nI b) x2 z0 (nI le) y_low y_rng y_cache y_pending (nI d.1) (lN d.2.1) (lN d.2.2) y_dr y_kb y_inp y_encQ y_encP y_decQ y_decP y_decC pk y_vec y_work y_vt := by
  have ⟨k1, k2, k3⟩ := pq_k_s hk hb
  have hV := pq_Vle (n := 8) (k := pq_k y_kb b) (by omega) k2
  have hp := pq_Vpos (pq_k y_kb b) (by omega)
  have ⟨hx, _⟩ := pq_dp_s pk le hD k2
  unfold wY_decodeFrame_186
  refine py_clamp ⟨vp_in_nI hb (by decide), ?_⟩
  rw [hq, nI_clamp (by omega), k3]
  refine py_vv (n := 8) (k := pq_k y_kb b) ht (by omega) k2 rfl rfl ?_
  unfold pq_dp at K hx
  by_cases c : pq_V 8 (pq_k y_kb b) ≤ 65536
  · rw [if_pos c] at K hx
    refine br_f (nI_nlt (a := 65536) c (by decide)) (py_dv hD hp c (nI_l (by omega)) (py_dc hB hl hD (by omega) hp c (Nat.le_refl 1) hp (Nat.le_refl _) (nI_l ?_) rfl (py_328 hb ht hk hq2 hx ?_)))
    · have := pq_dv_lt (d := d) hp; omega
    · intro pu de wk a1 a2 a3 a4
      exact K _ pu de wk a1 a2 a3 a4
  · rw [if_neg c] at K hx
    have ⟨a1, a2, a3, a4⟩ := pq_ap_s (pq_k y_kb b) (by omega) (by omega)
    have ⟨p1, p2⟩ := pq_ap_p _ a2
    have hv := pq_dv_lt (d := d) (total := (pq_V 8 (pq_k y_kb b) - 1) / 2 ^ pq_ap (pq_k y_kb b) + 1) (Nat.succ_pos _)
    have D1 := pq_dc_s pk le (total := (pq_V 8 (pq_k y_kb b) - 1) / 2 ^ pq_ap (pq_k y_kb b) + 1) (start := pq_dv d ((pq_V 8 (pq_k y_kb b) - 1) / 2 ^ pq_ap (pq_k y_kb b) + 1)) hD (Nat.succ_pos _) a3 (Nat.le_refl 1) (Nat.succ_pos _)
    have hv2 := pq_dv_lt (d := pq_dc pk le d ((pq_V 8 (pq_k y_kb b) - 1) / 2 ^ pq_ap (pq_k y_kb b) + 1) (pq_dv d ((pq_V 8 (pq_k y_kb b) - 1) / 2 ^ pq_ap (pq_k y_kb b) + 1)) 1) (total := 2 ^ pq_ap (pq_k y_kb b)) p1
    have ⟨l1, l2⟩ := pq_hlo (V := 0) (Nat.le_of_lt_succ (Nat.lt_of_lt_of_le hv a3)) a2 hv2
    have hvs : pq_dv d ((pq_V 8 (pq_k y_kb b) - 1) / 2 ^ pq_ap (pq_k y_kb b) + 1) < 2 ^ 31 := Nat.lt_of_lt_of_le hv (Nat.le_trans a3 (by decide))
    have hvs2 : pq_dv (pq_dc pk le d ((pq_V 8 (pq_k y_kb b) - 1) / 2 ^ pq_ap (pq_k y_kb b) + 1) (pq_dv d ((pq_V 8 (pq_k y_kb b) - 1) / 2 ^ pq_ap (pq_k y_kb b) + 1)) 1) (2 ^ pq_ap (pq_k y_kb b)) < 2 ^ 31 := Nat.lt_of_lt_of_le hv2 (Nat.le_trans p2 (by decide))
    have e1 : (nI (pq_V 8 (pq_k y_kb b) - 1) >>> (nI (pq_ap (pq_k y_kb b)) &&& 31) + 1).toInt64 = lN ((pq_V 8 (pq_k y_kb b) - 1) / 2 ^ pq_ap (pq_k y_kb b) + 1) := by
      rw [pq_shV (by omega) a2, nI_1, nI_l (Nat.lt_of_le_of_lt a3 (by decide))]
    have e2 : ((1 : Int32) <<< (nI (pq_ap (pq_k y_kb b)) &&& 31)).toInt64 = lN (2 ^ pq_ap (pq_k y_kb b)) := by
      rw [pq_p2 _ a2, nI_l (Nat.lt_of_le_of_lt p2 (by decide))]
    refine br_t (nI_lt (a := 65536) (by omega) (by omega)) (nm_r (pq_i1 hp) (py_bl (nI_l (by omega)) (by omega) (nm_r (e' := nI (pq_ap (pq_k y_kb b))) ?_ ?_)))
    · rw [a4, show (16 : Int32) = nI 16 from rfl, pk_sub (by omega), Nat.add_sub_cancel]
    · refine py_dv (total := (pq_V 8 (pq_k y_kb b) - 1) / 2 ^ pq_ap (pq_k y_kb b) + 1) hD (Nat.succ_pos _) a3 e1 (py_dc hB hl hD (by omega) (Nat.succ_pos _) a3 (Nat.le_refl 1) (Nat.succ_pos _) (Nat.le_refl _) (nI_l hvs) rfl ?_)
      refine py_dv (total := 2 ^ pq_ap (pq_k y_kb b)) D1 p1 (Nat.le_trans p2 (by decide)) e2 (py_dc hB hl D1 (by omega) p1 (Nat.le_trans p2 (by decide)) (Nat.le_refl 1) p1 (Nat.le_refl _) (nI_l hvs2) rfl ?_)
      refine nm_r (e' := nI (pq_dv d ((pq_V 8 (pq_k y_kb b) - 1) / 2 ^ pq_ap (pq_k y_kb b) + 1) * 2 ^ pq_ap (pq_k y_kb b) + pq_dv (pq_dc pk le d ((pq_V 8 (pq_k y_kb b) - 1) / 2 ^ pq_ap (pq_k y_kb b) + 1) (pq_dv d ((pq_V 8 (pq_k y_kb b) - 1) / 2 ^ pq_ap (pq_k y_kb b) + 1)) 1) (2 ^ pq_ap (pq_k y_kb b)))) (by rw [pq_p2 _ a2, pk_mul, nI_add]) ?_
      rw [pq_i1 hp]
      generalize pq_dv d ((pq_V 8 (pq_k y_kb b) - 1) / 2 ^ pq_ap (pq_k y_kb b) + 1) * 2 ^ pq_ap (pq_k y_kb b) + pq_dv (pq_dc pk le d ((pq_V 8 (pq_k y_kb b) - 1) / 2 ^ pq_ap (pq_k y_kb b) + 1) (pq_dv d ((pq_V 8 (pq_k y_kb b) - 1) / 2 ^ pq_ap (pq_k y_kb b) + 1)) 1) (2 ^ pq_ap (pq_k y_kb b)) = X at *
      by_cases cX : pq_V 8 (pq_k y_kb b) - 1 < X
      · rw [if_pos cX] at K hx
        refine br_f (nI_ge cX (by omega)) (nm_e (py_328 hb ht hk hq2 hx ?_))
        intro pu de wk a1 a2 a3 a4
        exact K _ pu de wk a1 a2 a3 a4
      · rw [if_neg cX] at K hx
        refine br_t (nI_le (by omega) (by omega)) (py_328 hb ht hk hq2 hx ?_)
        intro pu de wk a1 a2 a3 a4
        exact K _ pu de wk a1 a2 a3 a4
theorem py_139 {post : SY → Prop} {B q : Nat} {d : pq_D} {x2 : Int32} (hb : b < 4) (hB : pq_B pk) (hl : le ≤ 64) (ht : pq_tb y_vt) (hk : pq_HK y_kb) (hD : pq_DI B d) (hBB : B + 6 < 2 ^ 20) (hq : pq_cl (x2 + pq_rs (pq_ds d)) 0 33 = nI q) (hq2 : q ≤ 33)
    (K : ∀ (dr : Int64) (pu de wk : Nat → Int32), (∀ j, j < 8 → pu (8 * b + j) = pq_y 8 (pq_k y_kb b) (pq_dp pk le (pq_de pk le d) (pq_k y_kb b)).1 j) → (∀ i, (i < 8 * b ∨ 8 * b + 8 ≤ i) → pu i = y_decP i) → (∀ j, j < 8 → de (8 * b + j) = pq_sc (pq_y 8 (pq_k y_kb b) (pq_dp pk le (pq_de pk le d) (pq_k y_kb b)).1 j) q (pq_z 8 (pq_k y_kb b) (pq_dp pk le (pq_de pk le d) (pq_k y_kb b)).1)) → (∀ i, (i < 8 * b ∨ 8 * b + 8 ≤ i) → de i = y_decC i) →
      J (nI (b + 1)) (nI le) y_low y_rng y_cache y_pending (nI (((pq_dp pk le (pq_de pk le d) (pq_k y_kb b)).2)).1) (lN (((pq_dp pk le (pq_de pk le d) (pq_k y_kb b)).2)).2.1) (lN (((pq_dp pk le (pq_de pk le d) (pq_k y_kb b)).2)).2.2) dr y_kb y_inp y_encQ y_encP (upd y_decQ b (nI q)) pu de pk y_vec wk y_vt) :
    wY_decodeFrame_139 post J (nI b) x2 (nI (pq_ds d)) (nI le) y_low y_rng y_cache y_pending (nI d.1) (lN d.2.1) (lN d.2.2) (lN (d.2.1 / 150)) y_kb y_inp y_encQ y_encP y_decQ y_decP y_decC pk y_vec y_work y_vt := by
  have ⟨s1, s2, s3⟩ := pq_ds_s d
  have ⟨f1, f2, f3⟩ := pq_f_s (pq_ds d) (by omega)
  have hD2 := pq_de_s pk le hD
  unfold wY_decodeFrame_139
  refine py_st rfl (by omega) (py_freq rfl (by omega) (py_dc (total := 150) hB hl hD (by omega) (by decide) (by decide) f2 (by omega) s1 (nI_l (by omega)) (nI_l (by omega)) ⟨by decide, ?_⟩))
  unfold pq_rs at hq
  by_cases c : nI (pq_ds d) - nI (pq_ds d) / 2 * 2 = 0
  · rw [if_pos c] at hq
    exact br_t c ⟨by decide, py_186 hb hB hl ht hk hD2 (by omega) hq hq2 K⟩
  · rw [if_neg c] at hq
    exact br_f c ⟨by decide, py_186 hb hB hl ht hk hD2 (by omega) hq hq2 K⟩
theorem py_88 {post : SY → Prop} {B q : Nat} {d : pq_D} {x2 : Int32} (hb : b < 4) (hB : pq_B pk) (hl : le ≤ 64) (ht : pq_tb y_vt) (hk : pq_HK y_kb) (hD : pq_DI B d) (hBB : B + 6 < 2 ^ 20) (hq : pq_cl (x2 + pq_rs (pq_ds d)) 0 33 = nI q) (hq2 : q ≤ 33)
    (K : ∀ (dr : Int64) (pu de wk : Nat → Int32), (∀ j, j < 8 → pu (8 * b + j) = pq_y 8 (pq_k y_kb b) (pq_dp pk le (pq_de pk le d) (pq_k y_kb b)).1 j) → (∀ i, (i < 8 * b ∨ 8 * b + 8 ≤ i) → pu i = y_decP i) → (∀ j, j < 8 → de (8 * b + j) = pq_sc (pq_y 8 (pq_k y_kb b) (pq_dp pk le (pq_de pk le d) (pq_k y_kb b)).1 j) q (pq_z 8 (pq_k y_kb b) (pq_dp pk le (pq_de pk le d) (pq_k y_kb b)).1)) → (∀ i, (i < 8 * b ∨ 8 * b + 8 ≤ i) → de i = y_decC i) →
      J (nI (b + 1)) (nI le) y_low y_rng y_cache y_pending (nI (((pq_dp pk le (pq_de pk le d) (pq_k y_kb b)).2)).1) (lN (((pq_dp pk le (pq_de pk le d) (pq_k y_kb b)).2)).2.1) (lN (((pq_dp pk le (pq_de pk le d) (pq_k y_kb b)).2)).2.2) dr y_kb y_inp y_encQ y_encP (upd y_decQ b (nI q)) pu de pk y_vec wk y_vt) : ∀ t c, c + t = pq_ds d →
    wY_decodeFrame_88 post J (nI b) x2 (nI (pq_dv d 150)) 0 (nI le) y_low y_rng y_cache y_pending (nI d.1) (lN d.2.1) (lN d.2.2) (lN (d.2.1 / 150)) y_kb y_inp y_encQ y_encP y_decQ y_decP y_decC pk y_vec y_work y_vt (t + 1) (nI c) := by
  have ⟨s1, s2, s3⟩ := pq_ds_s d
  have v := pq_dv_lt (d := d) (total := 150) (by decide)
  intro t
  induction t with
  | zero =>
    intro c hc
    have e : c = pq_ds d := by omega
    subst e
    have m : pq_st (pq_ds d + 1) = pq_st (pq_ds d) + pq_f (pq_ds d) := rfl
    have f1 := (pq_f_s (pq_ds d) (by omega)).1
    refine br_f (nI_nlt (a := 66) s3 (by decide)) (py_st rfl (by omega) (py_freq rfl (by omega) (br_f (nI_nlt s1 (by omega)) (br_f ?_ (py_139 hb hB hl ht hk hD hBB hq hq2 K)))))
    rw [nI_add]
    exact nI_ge (by omega) (by omega)
  | succ t ih =>
    intro c hc
    have m : pq_st (c + 1) = pq_st c + pq_f c := rfl
    have m2 : pq_st (c + 1) ≤ pq_st (pq_ds d) := pq_S_mono pq_f (by omega)
    refine br_f (nI_nlt (a := 66) (by omega) (by decide)) (py_st rfl (by omega) (py_freq rfl (by omega) (br_f (nI_nlt (by omega) (by omega)) (br_t ?_ (nm_r (nI_1 c) (ih (c + 1) (by omega)))))))
    rw [nI_add]
    exact nI_le (by omega) (by omega)
theorem py_56 {post : SY → Prop} (hB : pq_B pk) (hl : le ≤ 64) (ht : pq_tb y_vt) (hk : pq_HK y_kb)
    (K : ∀ (dr : Int64) (en pu de wk : Nat → Int32), pq_fin y_decQ pk le y_kb 4 en pu de →
      post (nI le, y_low, y_rng, y_cache, y_pending, nI ((pq_db pk le y_kb 4)).1, lN ((pq_db pk le y_kb 4)).2.1, lN ((pq_db pk le y_kb 4)).2.2, dr, y_kb, y_inp, y_encQ, y_encP, en, pu, de, pk, y_vec, wk, y_vt)) :
    ∀ d b (dr : Int64) (en pu de wk : Nat → Int32), b + d = 4 → pq_fin y_decQ pk le y_kb b en pu de → (∀ j, b ≤ j → en j = y_decQ j) →
    wY_decodeFrame_56 post (d + 1) (nI b) (nI le) y_low y_rng y_cache y_pending (nI ((pq_db pk le y_kb b)).1) (lN ((pq_db pk le y_kb b)).2.1) (lN ((pq_db pk le y_kb b)).2.2) dr y_kb y_inp y_encQ y_encP en pu de pk y_vec wk y_vt := by
  intro d
  induction d with
  | zero =>
    intro b dr en pu de wk hb h1 h2
    have e : b = 4 := by omega
    subst e
    exact br_t (nI_le (a := 4) (Nat.le_refl _) (by decide)) (K dr en pu de wk h1)
  | succ d ih =>
    intro b dr en pu de wk hb h1 h2
    have hb4 : b < 4 := by omega
    have hD := pq_db_s pk le hk b (by omega)
    have ⟨q1, q2⟩ := pq_qf_s y_decQ pk le y_kb b
    refine br_f (nI_ge (b := 4) (by omega) (by decide)) ⟨vp_in_nI hb4 (by decide), by decide, nm_r (e' := (3 * y_decQ b + 2) / 4) (by rw [nI_clamp (by omega), h2 b (Nat.le_refl _)]) ?_⟩
    refine py_dv (total := 150) hD (by decide) (by decide) rfl ⟨pq_ds (pq_db pk le y_kb b) + 1, ?_⟩
    refine py_88 hb4 hB hl ht hk hD (by omega) q1 q2 ?_ (pq_ds (pq_db pk le y_kb b)) 0 (by omega)
    intro dr' pu' de' wk' g1 g2 g3 g4
    refine ih (b + 1) dr' _ pu' de' wk' (by omega) ⟨?_, ?_, ?_⟩ ?_
    · intro c hc
      by_cases z : c = b
      · subst z; rw [pk_us, q1]
      · rw [pk_un z]; exact h1.1 c (by omega)
    · intro c j hc hj
      by_cases z : c = b
      · subst z; exact g1 j hj
      · rw [g2 _ (by omega)]; exact h1.2.1 c j (by omega) hj
    · intro c j hc hj
      by_cases z : c = b
      · subst z; exact g3 j hj
      · rw [g4 _ (by omega)]; exact h1.2.2 c j (by omega) hj
    · intro j hj
      rw [pk_un (by omega)]
      exact h2 j (by omega)
theorem py_19 {post : SY → Prop} (hB : pq_B pk) (hl : le ≤ 64) (ht : pq_tb y_vt) (hk : pq_HK y_kb)
    (K : ∀ (dr : Int64) (en pu de wk : Nat → Int32), pq_fin y_decQ pk le y_kb 4 en pu de →
      post (nI le, y_low, y_rng, y_cache, y_pending, nI ((pq_db pk le y_kb 4)).1, lN ((pq_db pk le y_kb 4)).2.1, lN ((pq_db pk le y_kb 4)).2.2, dr, y_kb, y_inp, y_encQ, y_encP, en, pu, de, pk, y_vec, wk, y_vt)) : ∀ d i, i + d = 5 →
    wY_decodeFrame_19 post (d + 1) (nI i) (nI le) y_low y_rng y_cache y_pending (nI ((pq_d5 pk le i)).1) (lN ((pq_d5 pk le i)).2.1) (lN ((pq_d5 pk le i)).2.2) y_dr y_kb y_inp y_encQ y_encP y_decQ y_decP y_decC pk y_vec y_work y_vt := by
  intro d
  induction d with
  | zero =>
    intro i hi
    have e : i = 5 := by omega
    subst e
    exact br_t (nI_le (a := 5) (Nat.le_refl _) (by decide)) ⟨5, py_56 hB hl ht hk K 4 0 y_dr y_decQ y_decP y_decC y_work (by omega) ⟨fun c h => absurd h (Nat.not_lt_zero c), fun c _ h => absurd h (Nat.not_lt_zero c), fun c _ h => absurd h (Nat.not_lt_zero c)⟩ (fun _ _ => rfl)⟩
  | succ d ih =>
    intro i hi
    have ⟨a1, _, a3⟩ := pq_d5_s pk le i
    exact br_f (nI_ge (b := 5) (by omega) (by decide)) (py_nb hB hl (by omega) (nm_r (pq_tkY hB hl a3) (nm_r (nI_1 i) (ih (i + 1) (by omega)))))
theorem py_decode {post : SY → Prop} (hB : pq_B pk) (hl : le ≤ 64) (ht : pq_tb y_vt) (hk : pq_HK y_kb)
    (K : ∀ (dr : Int64) (en pu de wk : Nat → Int32), pq_fin y_decQ pk le y_kb 4 en pu de →
      post (nI le, y_low, y_rng, y_cache, y_pending, nI ((pq_db pk le y_kb 4)).1, lN ((pq_db pk le y_kb 4)).2.1, lN ((pq_db pk le y_kb 4)).2.2, dr, y_kb, y_inp, y_encQ, y_encP, en, pu, de, pk, y_vec, wk, y_vt)) : wpY_decodeFrame post (nI le, y_low, y_rng, y_cache, y_pending, y_rpos, y_drng, y_dcode, y_dr, y_kb, y_inp, y_encQ, y_encP, y_decQ, y_decP, y_decC, pk, y_vec, y_work, y_vt) :=
  ⟨6, py_19 hB hl ht hk K 5 0 (by omega)⟩
end PQY
end
section
/-! the constructors -/
def pq_tu (m : Nat) (t : Nat → Int32) : Prop := ∀ j, j < m → t j = nI (pq_t j)
theorem pq_tu_s {m : Nat} {t : Nat → Int32} (h : pq_tu m t) : pq_tu (m + 1) (upd t m (nI (pq_t m))) := by
  intro j hj
  by_cases e : j = m
  · subst e; exact pk_us
  · rw [pk_un e]; exact h j (by omega)
theorem pq_tu_V {m : Nat} {t : Nat → Int32} (h : pq_tu m t) {n k : Nat} (hm : n * 17 + k < m) : t (n * 17 + k) = nI (pq_V n k) := h _ hm
theorem pq_tu_17 : ∀ j, j < 17 → upd (fun _ => (0 : Int32)) 0 1 j = nI (pq_t j) := by decide +kernel
theorem pq_t0 : ∀ j, j < 17 → nI (pq_t j) = if j = 0 then 1 else 0 := by decide +kernel
section PQN
variable {x_length x_cache x_pending x_readPosition : Int32} {x_low x_encoderRange x_decoderRange x_code x_decoderStep : Int64} {x_pulseCounts x_coefs x_energies x_pulses x_decoded x_vec x_sizes x_packet : Nat → Int32}
variable {y_pktLen y_pending y_rpos : Int32} {y_low y_rng y_cache y_drng y_dcode y_dr : Int64} {y_kb y_inp y_encQ y_encP y_decQ y_decP y_decC y_pkt y_vec y_work y_vt : Nat → Int32}
theorem px_f19 {post : SX → Prop} {J : Int32 → (Nat → Int32) → (Nat → Int32) → (Nat → Int32) → (Nat → Int32) → (Nat → Int32) → (Nat → Int32) → (Nat → Int32) → (Nat → Int32) → Prop} {n : Nat} (hn : n < 8)
    (K : ∀ t : Nat → Int32, pq_tu ((n + 1) * 17 + 17) t → J (nI (n + 1 + 1)) x_pulseCounts x_coefs x_energies x_pulses x_decoded x_vec t x_packet) : ∀ d k (t : Nat → Int32), k + d = 17 → pq_tu ((n + 1) * 17 + k) t →
    wX_fillSizes_19 post J (nI (n + 1)) x_length x_low x_encoderRange x_cache x_pending x_readPosition x_decoderRange x_code x_decoderStep (d + 1) (nI (pq_S (pq_V n) k)) (nI k) x_pulseCounts x_coefs x_energies x_pulses x_decoded x_vec t x_packet := by
  intro d
  induction d with
  | zero =>
    intro k t hk ht
    have e : k = 17 := by omega
    subst e
    exact br_t (nI_lt (a := 16) (by decide) (by decide)) (nm_r (nI_1 (n + 1)) (K t ht))
  | succ d ih =>
    intro k t hk ht
    have e1 : (nI (n + 1) - 1) * 17 + nI k = nI (n * 17 + k) := by rw [nI_pred, pq_i17]
    refine br_f (nI_nlt (a := 16) (by omega) (by decide)) ⟨pk_in (n * 17 + k) 153 (by omega) e1, nm_r (e' := nI (pq_V n k)) (by rw [e1, nI_clamp (by omega), pq_tu_V ht (by omega)]) ⟨pk_in ((n + 1) * 17 + k) 153 (by omega) (pq_i17 _ _), nm_r (e' := upd t ((n + 1) * 17 + k) (nI (pq_t ((n + 1) * 17 + k)))) ?_ (nm_r (nI_add _ _) (nm_r (nI_1 k) (ih (k + 1) _ (by omega) (pq_tu_s ht))))⟩⟩
    rw [pq_i17, nI_clamp (by omega), pq_2i, nI_add, ← pq_row n hn k (by omega)]
    rfl
theorem px_f9 {post : SX → Prop} (K : ∀ t : Nat → Int32, pq_tb t → post (x_length, x_low, x_encoderRange, x_cache, x_pending, x_readPosition, x_decoderRange, x_code, x_decoderStep, x_pulseCounts, x_coefs, x_energies, x_pulses, x_decoded, x_vec, t, x_packet)) : ∀ d n (t : Nat → Int32), n + d = 8 → pq_tu ((n + 1) * 17) t →
    wX_fillSizes_9 post x_length x_low x_encoderRange x_cache x_pending x_readPosition x_decoderRange x_code x_decoderStep (d + 1) (nI (n + 1)) x_pulseCounts x_coefs x_energies x_pulses x_decoded x_vec t x_packet := by
  intro d
  induction d with
  | zero =>
    intro n t hn ht
    have e : n = 8 := by omega
    subst e
    exact br_t (nI_lt (a := 8) (by decide) (by decide)) (K t ht)
  | succ d ih =>
    intro n t hn ht
    refine br_f (nI_nlt (a := 8) (by omega) (by decide)) ⟨18, px_f19 (n := n) (by omega) ?_ 17 0 t (by omega) ht⟩
    intro t' ht'
    refine ih (n + 1) t' (by omega) ?_
    have e : (n + 1 + 1) * 17 = (n + 1) * 17 + 17 := by omega
    rw [e]
    exact ht'
theorem px_fill {post : SX → Prop} (K : ∀ t : Nat → Int32, pq_tb t → post (x_length, x_low, x_encoderRange, x_cache, x_pending, x_readPosition, x_decoderRange, x_code, x_decoderStep, x_pulseCounts, x_coefs, x_energies, x_pulses, x_decoded, x_vec, t, x_packet)) : wpX_fillSizes post (x_length, x_low, x_encoderRange, x_cache, x_pending, x_readPosition, x_decoderRange, x_code, x_decoderStep, x_pulseCounts, x_coefs, x_energies, x_pulses, x_decoded, x_vec, (fun _ => 0), x_packet) :=
  nm_e ⟨9, px_f9 K 8 0 _ (by omega) pq_tu_17⟩
theorem px_init {post : SX → Prop} {k0 k1 k2 k3 : Int32} (K : ∀ t : Nat → Int32, pq_tb t → post (0, 0, 4294967295, 0, 1, 0, 4294967295, 0, 0, upd (upd (upd (upd (fun _ => 0) 0 (pq_cl k0 1 16)) 1 (pq_cl k1 1 16)) 2 (pq_cl k2 1 16)) 3 (pq_cl k3 1 16), (fun _ => 0), (fun _ => 0), (fun _ => 0), (fun _ => 0), (fun _ => 0), t, (fun _ => 0))) : wpX_init post k0 k1 k2 k3 := by
  unfold wpX_init
  exact px_clamp (nm_e (px_clamp (nm_e (px_clamp (nm_e (px_clamp (nm_e (px_fill K))))))))
theorem py_rs5 {post : Int32 → Prop} {n k : Nat} (hn : n < 8) (hk : k ≤ 16) (ht : ∀ i, i < 17 → y_vt (n * 17 + i) = nI (pq_V n i)) (h : post (nI (pq_S (pq_V n) k))) : ∀ d j, j + d = k → wY_rowSum_5 post (nI n) (nI k - 1) y_pktLen y_low y_rng y_cache y_pending y_rpos y_drng y_dcode y_dr y_kb y_inp y_encQ y_encP y_decQ y_decP y_decC y_pkt y_vec y_work y_vt (d + 1) (nI (pq_S (pq_V n) j)) (nI j) := by
  intro d
  induction d with
  | zero =>
    intro j hj
    have e : j = k := by omega
    subst e
    refine br_t ?_ h
    by_cases z : j = 0
    · subst z; decide
    · rw [pq_i1 (by omega)]; exact nI_lt (by omega) (by omega)
  | succ d ih =>
    intro j hj
    refine br_f ?_ (br_f (nI_nlt (a := 16) (by omega) (by decide)) ⟨pk_in (n * 17 + j) 153 (by omega) (pq_i17 _ _), nm_r (e' := nI (pq_S (pq_V n) (j + 1))) ?_ (nm_r (nI_1 j) (ih (j + 1) (by omega)))⟩)
    · rw [pq_i1 (by omega)]; exact nI_nlt (by omega) (by omega)
    · rw [pq_i17, nI_clamp (by omega), ht j (by omega), nI_add]; rfl
theorem py_i160 {post : SY → Prop} {J : Int32 → (Nat → Int32) → (Nat → Int32) → (Nat → Int32) → (Nat → Int32) → (Nat → Int32) → (Nat → Int32) → (Nat → Int32) → (Nat → Int32) → (Nat → Int32) → (Nat → Int32) → (Nat → Int32) → Prop} {n : Nat} (hn : n < 9)
    (K : ∀ t : Nat → Int32, pq_tu (n * 17 + 17) t → J (nI (n + 1)) y_kb y_inp y_encQ y_encP y_decQ y_decP y_decC y_pkt y_vec y_work t) : ∀ d k (t : Nat → Int32), k + d = 17 → pq_tu (n * 17 + k) t →
    wY_init_160 post J (nI n) y_pktLen y_low y_rng y_cache y_pending y_rpos y_drng y_dcode y_dr (d + 1) (nI k) y_kb y_inp y_encQ y_encP y_decQ y_decP y_decC y_pkt y_vec y_work t := by
  intro d
  induction d with
  | zero =>
    intro k t hk ht
    have e : k = 17 := by omega
    subst e
    exact br_t (nI_lt (a := 16) (by decide) (by decide)) (nm_r (nI_1 n) (K t ht))
  | succ d ih =>
    intro k t hk ht
    have IH := ih (k + 1) (upd t (n * 17 + k) (nI (pq_t (n * 17 + k)))) (by omega) (pq_tu_s ht)
    refine br_f (nI_nlt (a := 16) (by omega) (by decide)) ?_
    by_cases z : n = 0
    · subst z
      have e0 : 0 * 17 + k = k := by omega
      rw [e0, pq_t0 k (by omega)] at IH
      refine br_t rfl ?_
      by_cases w : k = 0
      · rw [if_pos w] at IH
        exact br_t (by rw [w]; rfl) ⟨vp_in_nI (by omega) (by decide), nm_r (e' := upd t k 1) (by rw [nI_clamp (by omega)]) (nm_r (nI_1 k) IH)⟩
      · rw [if_neg w] at IH
        exact br_f (nI_ne0 (by omega) (by omega)) ⟨vp_in_nI (by omega) (by decide), nm_r (e' := upd t k 0) (by rw [nI_clamp (by omega)]) (nm_r (nI_1 k) IH)⟩
    · obtain ⟨m, rfl⟩ : ∃ m, n = m + 1 := ⟨n - 1, by omega⟩
      have e1 : (nI (m + 1) - 1) * 17 + nI k = nI (m * 17 + k) := by rw [nI_pred, pq_i17]
      refine br_f (nI_ne0 (by omega) (by omega)) ⟨k + 1, ?_⟩
      rw [show nI (m + 1) - 1 = nI m from nI_pred m] at e1 ⊢
      refine py_rs5 (n := m) (k := k) (by omega) (by omega) (fun i hi => pq_tu_V ht (by omega)) ?_ k 0 (by omega)
      refine ⟨pk_in (m * 17 + k) 153 (by omega) e1, pk_in ((m + 1) * 17 + k) 153 (by omega) (pq_i17 _ _), nm_r (e' := upd t ((m + 1) * 17 + k) (nI (pq_t ((m + 1) * 17 + k)))) ?_ (nm_r (nI_1 k) IH)⟩
      rw [e1, pq_i17, nI_clamp (by omega), nI_clamp (by omega), pq_tu_V ht (by omega), pq_2i, nI_add, ← pq_row m (by omega) k (by omega)]
      rfl
theorem py_i150 {post : SY → Prop} (K : ∀ t : Nat → Int32, pq_tb t → post (y_pktLen, y_low, y_rng, y_cache, y_pending, y_rpos, y_drng, y_dcode, y_dr, y_kb, y_inp, y_encQ, y_encP, y_decQ, y_decP, y_decC, y_pkt, y_vec, y_work, t)) : ∀ d n (t : Nat → Int32), n + d = 9 → pq_tu (n * 17) t →
    wY_init_150 post y_pktLen y_low y_rng y_cache y_pending y_rpos y_drng y_dcode y_dr (d + 1) (nI n) y_kb y_inp y_encQ y_encP y_decQ y_decP y_decC y_pkt y_vec y_work t := by
  intro d
  induction d with
  | zero =>
    intro n t hn ht
    have e : n = 9 := by omega
    subst e
    exact br_t (nI_lt (a := 8) (by decide) (by decide)) (K t ht)
  | succ d ih =>
    intro n t hn ht
    refine br_f (nI_nlt (a := 8) (by omega) (by decide)) ⟨18, py_i160 (n := n) (by omega) ?_ 17 0 t (by omega) ht⟩
    intro t' ht'
    refine ih (n + 1) t' (by omega) ?_
    have e : (n + 1) * 17 = n * 17 + 17 := by omega
    rw [e]
    exact ht'
theorem py_init {post : SY → Prop} {k0 k1 k2 k3 : Int32} (K : ∀ t : Nat → Int32, pq_tb t → post (0, 0, 0, 0, 0, 0, 0, 0, 0, upd (upd (upd (upd (fun _ => 0) 0 (pq_cl k0 1 16)) 1 (pq_cl k1 1 16)) 2 (pq_cl k2 1 16)) 3 (pq_cl k3 1 16), (fun _ => 0), (fun _ => 0), (fun _ => 0), (fun _ => 0), (fun _ => 0), (fun _ => 0), (fun _ => 0), (fun _ => 0), (fun _ => 0), t)) : wpY_init post k0 k1 k2 k3 := by
  unfold wpY_init
  exact py_clamp (nm_e (py_clamp (nm_e (py_clamp (nm_e (py_clamp (nm_e ⟨10, py_i150 K 9 0 (fun _ => 0) (by omega) (fun j h => absurd h (by omega))⟩)))))))
end PQN
end
section
/-- what holds of the state: ranges, and the pieces that both sides keep -/
def pq_F (le : Nat) (pc co pk x_energies x_pulses x_decoded x_vec x_sizes y_encQ y_encP y_decQ y_decP y_decC y_vec y_vt : Nat → Int32) : Prop :=
  le ≤ 64 ∧ pq_HK pc ∧ pq_HC co ∧ pq_B pk ∧ pq_tb x_sizes ∧ pq_tb y_vt ∧ pq_HQ x_energies ∧ (∀ j, j < 4 → x_energies j = y_encQ j) ∧ (∀ j, j < 4 → x_energies (4 + j) = y_decQ j) ∧
  (∀ i, i < 32 → x_pulses i = y_encP i) ∧ (∀ i, i < 32 → x_pulses (32 + i) = y_decP i) ∧ (∀ i, i < 32 → x_decoded i = y_decC i) ∧ (∀ i, i < 8 → x_vec i = y_vec i ∧ pq_mg (x_vec i) ≤ 16)
def i_Rel (_ : Nat) (u : SX) (v : SY) : Prop := ∃ (le : Nat) (pc co pk : Nat → Int32) (x_low : Int64) (x_encoderRange : Int64) (x_cache : Int32) (x_pending : Int32) (x_readPosition : Int32) (x_decoderRange : Int64) (x_code : Int64) (x_decoderStep : Int64) (x_energies : Nat → Int32) (x_pulses : Nat → Int32) (x_decoded : Nat → Int32) (x_vec : Nat → Int32) (x_sizes : Nat → Int32) (y_low : Int64) (y_rng : Int64) (y_cache : Int64) (y_pending : Int32) (y_rpos : Int32) (y_drng : Int64) (y_dcode : Int64) (y_dr : Int64) (y_encQ : Nat → Int32) (y_encP : Nat → Int32) (y_decQ : Nat → Int32) (y_decP : Nat → Int32) (y_decC : Nat → Int32) (y_vec : Nat → Int32) (y_work : Nat → Int32) (y_vt : Nat → Int32), u = (nI le, x_low, x_encoderRange, x_cache, x_pending, x_readPosition, x_decoderRange, x_code, x_decoderStep, pc, co, x_energies, x_pulses, x_decoded, x_vec, x_sizes, pk) ∧ v = (nI le, y_low, y_rng, y_cache, y_pending, y_rpos, y_drng, y_dcode, y_dr, pc, co, y_encQ, y_encP, y_decQ, y_decP, y_decC, pk, y_vec, y_work, y_vt) ∧ pq_F le pc co pk x_energies x_pulses x_decoded x_vec x_sizes y_encQ y_encP y_decQ y_decP y_decC y_vec y_vt
theorem i_up {k : Nat} {u : SX} {v : SY} (h : i_Rel k u v) : i_Rel (k + 4) u v := h
section PQR
variable {x_length x_cache x_pending x_readPosition : Int32} {x_low x_encoderRange x_decoderRange x_code x_decoderStep : Int64} {x_pulseCounts x_coefs x_energies x_pulses x_decoded x_vec x_sizes x_packet : Nat → Int32}
variable {y_pktLen y_pending y_rpos : Int32} {y_low y_rng y_cache y_drng y_dcode y_dr : Int64} {y_kb y_inp y_encQ y_encP y_decQ y_decP y_decC y_pkt y_vec y_work y_vt : Nat → Int32}
variable {le : Nat} {pc co pk : Nat → Int32}
theorem pq_mk {k : Nat} (h : pq_F le pc co pk x_energies x_pulses x_decoded x_vec x_sizes y_encQ y_encP y_decQ y_decP y_decC y_vec y_vt) : i_Rel k (nI le, x_low, x_encoderRange, x_cache, x_pending, x_readPosition, x_decoderRange, x_code, x_decoderStep, pc, co, x_energies, x_pulses, x_decoded, x_vec, x_sizes, pk) (nI le, y_low, y_rng, y_cache, y_pending, y_rpos, y_drng, y_dcode, y_dr, pc, co, y_encQ, y_encP, y_decQ, y_decP, y_decC, pk, y_vec, y_work, y_vt) := ⟨le, pc, co, pk, x_low, x_encoderRange, x_cache, x_pending, x_readPosition, x_decoderRange, x_code, x_decoderStep, x_energies, x_pulses, x_decoded, x_vec, x_sizes, y_low, y_rng, y_cache, y_pending, y_rpos, y_drng, y_dcode, y_dr, y_encQ, y_encP, y_decQ, y_decP, y_decC, y_vec, y_work, y_vt, rfl, rfl, h⟩
theorem pq_rng (x : Int32) {n m : Nat} (hn : n = m + 1) (h : n < 2 ^ 31) : x < 0 ∨ (¬ x < 0 ∧ ¬ x < nI n ∧ ¬ x ≤ nI m ∧ nI n ≤ x) ∨ ∃ j, j < n ∧ x = nI j := by
  cases pk_ix x h with
  | inl a => exact Or.inl a
  | inr a =>
    cases a with
    | inl a =>
      refine Or.inr (Or.inl ?_)
      have a2 := Int32.le_iff_toInt_le.mp a
      rw [nI_toInt h] at a2
      refine ⟨?_, ?_, ?_, a⟩
      · rw [Int32.lt_iff_toInt_lt, pq_z32]; omega
      · rw [Int32.lt_iff_toInt_lt, nI_toInt h]; omega
      · rw [Int32.le_iff_toInt_le, nI_toInt (by omega)]; omega
    | inr a => exact Or.inr (Or.inr a)
theorem pq_upR {f g : Nat → Int32} {N j : Nat} {z : Int32} (h : ∀ i, i < N → f i = g i) : ∀ i, i < N → upd f j z i = upd g j z i := by
  intro i hi
  by_cases e : i = j
  · subst e; rw [pk_us, pk_us]
  · rw [pk_un e, pk_un e]; exact h i hi
theorem i_vc0 (k0 : Int32) (k1 : Int32) (k2 : Int32) (k3 : Int32) : wpX_init (fun u => wpY_init (fun v => i_Rel 4 u v) k0 k1 k2 k3) k0 k1 k2 k3 := by
  refine px_init ?_
  intro t ht
  refine py_init ?_
  intro t2 ht2
  refine pq_mk (le := 0) ⟨by decide, ?_, ?_, ?_, ht, ht2, ?_, fun _ _ => rfl, fun _ _ => rfl, fun _ _ => rfl, fun _ _ => rfl, fun _ _ => rfl, fun i _ => ⟨rfl, ?_⟩⟩
  · intro b hb
    have c0 := pq_cl_1 k0
    have c1 := pq_cl_1 k1
    have c2 := pq_cl_1 k2
    have c3 := pq_cl_1 k3
    by_cases b3 : b = 3
    · subst b3; rw [pk_us]; exact c3
    · rw [pk_un b3]
      by_cases b2 : b = 2
      · subst b2; rw [pk_us]; exact c2
      · rw [pk_un b2]
        by_cases b1 : b = 1
        · subst b1; rw [pk_us]; exact c1
        · rw [pk_un b1]
          have b0 : b = 0 := by omega
          subst b0; rw [pk_us]; exact c0
  · intro j _; exact (by decide : pq_mg 0 ≤ 32767)
  · intro i _; exact ⟨0, by decide, rfl⟩
  · intro b _; exact ⟨0, by decide, rfl⟩
  · exact (by decide : pq_mg 0 ≤ 16)
theorem i_vc_setCoef {k : Nat} {u : SX} {v : SY} (I : i_Rel k u v) (hk : k + 4 ≤ 2052) (v1 : Int32) (v2 : Int32) : wpX_setCoef (fun r u' => wpY_setCoef (fun r' v' => r' = r ∧ i_Rel (k + 4) u' v') v v1 v2) u v1 v2 := by
  obtain ⟨le, pc, co, pk, x_low, x_encoderRange, x_cache, x_pending, x_readPosition, x_decoderRange, x_code, x_decoderStep, x_energies, x_pulses, x_decoded, x_vec, x_sizes, y_low, y_rng, y_cache, y_pending, y_rpos, y_drng, y_dcode, y_dr, y_encQ, y_encP, y_decQ, y_decP, y_decC, y_vec, y_work, y_vt, rfl, rfl, hl, hk, hc, hB, ht, ht2, hq, e1, e2, p1, p2, dC, vv⟩ := I
  rcases pq_rng v1 (n := 32) (m := 31) rfl (by decide) with a | ⟨a, b, c, _⟩ | ⟨j, hj, rfl⟩
  · exact br_t a (br_t a ⟨rfl, pq_mk ⟨hl, hk, hc, hB, ht, ht2, hq, e1, e2, p1, p2, dC, vv⟩⟩)
  · exact br_f a (br_f b (br_f a (br_f c ⟨rfl, pq_mk ⟨hl, hk, hc, hB, ht, ht2, hq, e1, e2, p1, p2, dC, vv⟩⟩)))
  · have i1 : vp_in (nI j) 32 := vp_in_nI hj (by decide)
    refine br_f (nI_pos (by omega)) (br_t (nI_lt (b := 32) hj (by decide)) (px_clamp ⟨i1, nm_e (br_f (nI_pos (by omega)) (br_t (nI_le (b := 31) (by omega) (by decide)) (py_clamp ⟨i1, nm_e ⟨rfl, pq_mk ⟨hl, hk, ?_, hB, ht, ht2, hq, e1, e2, p1, p2, dC, vv⟩⟩⟩)))⟩))
    intro i hi
    by_cases z : i = (nI j).toNatClampNeg
    · rw [← z, pk_us]; exact pq_cl_m v2 (c := 32767) (C := 32767) (by decide) rfl
    · rw [pk_un z]; exact hc i hi
theorem i_vc_coefAt {k : Nat} {u : SX} {v : SY} (I : i_Rel k u v) (hk : k + 4 ≤ 2052) (v1 : Int32) : wpX_coefAt (fun r => wpY_coefAt (fun r' => r' = r ∧ i_Rel (k + 4) u v) v v1) u v1 := by
  have I2 : i_Rel (k + 4) u v := I
  obtain ⟨le, pc, co, pk, x_low, x_encoderRange, x_cache, x_pending, x_readPosition, x_decoderRange, x_code, x_decoderStep, x_energies, x_pulses, x_decoded, x_vec, x_sizes, y_low, y_rng, y_cache, y_pending, y_rpos, y_drng, y_dcode, y_dr, y_encQ, y_encP, y_decQ, y_decP, y_decC, y_vec, y_work, y_vt, rfl, rfl, hl, hk, hc, hB, ht, ht2, hq, e1, e2, p1, p2, dC, vv⟩ := I
  rcases pq_rng v1 (n := 32) (m := 31) rfl (by decide) with a | ⟨a, b, c, _⟩ | ⟨j, hj, rfl⟩
  · exact br_t a (br_t a ⟨rfl, I2⟩)
  · exact br_f a (br_f b (br_f a (br_f c ⟨rfl, I2⟩)))
  · have i1 : vp_in (nI j) 32 := vp_in_nI hj (by decide)
    refine br_f (nI_pos (by omega)) (br_t (nI_lt (b := 32) hj (by decide)) ⟨i1, br_f (nI_pos (by omega)) (br_t (nI_le (b := 31) (by omega) (by decide)) ⟨i1, ?_, I2⟩)⟩)
    rw [nI_clamp (by omega)]
    all_goals exact rfl
theorem i_vc_decodedCoef {k : Nat} {u : SX} {v : SY} (I : i_Rel k u v) (hk : k + 4 ≤ 2052) (v1 : Int32) : wpX_decodedCoef (fun r => wpY_decodedCoef (fun r' => r' = r ∧ i_Rel (k + 4) u v) v v1) u v1 := by
  have I2 : i_Rel (k + 4) u v := I
  obtain ⟨le, pc, co, pk, x_low, x_encoderRange, x_cache, x_pending, x_readPosition, x_decoderRange, x_code, x_decoderStep, x_energies, x_pulses, x_decoded, x_vec, x_sizes, y_low, y_rng, y_cache, y_pending, y_rpos, y_drng, y_dcode, y_dr, y_encQ, y_encP, y_decQ, y_decP, y_decC, y_vec, y_work, y_vt, rfl, rfl, hl, hk, hc, hB, ht, ht2, hq, e1, e2, p1, p2, dC, vv⟩ := I
  rcases pq_rng v1 (n := 32) (m := 31) rfl (by decide) with a | ⟨a, b, c, _⟩ | ⟨j, hj, rfl⟩
  · exact br_t a (br_t a ⟨rfl, I2⟩)
  · exact br_f a (br_f b (br_f a (br_f c ⟨rfl, I2⟩)))
  · have i1 : vp_in (nI j) 32 := vp_in_nI hj (by decide)
    refine br_f (nI_pos (by omega)) (br_t (nI_lt (b := 32) hj (by decide)) ⟨i1, br_f (nI_pos (by omega)) (br_t (nI_le (b := 31) (by omega) (by decide)) ⟨i1, ?_, I2⟩)⟩)
    rw [nI_clamp (by omega)]
    all_goals exact (dC j hj).symm
theorem i_vc_vecAt {k : Nat} {u : SX} {v : SY} (I : i_Rel k u v) (hk : k + 4 ≤ 2052) (v1 : Int32) : wpX_vecAt (fun r => wpY_vecAt (fun r' => r' = r ∧ i_Rel (k + 4) u v) v v1) u v1 := by
  have I2 : i_Rel (k + 4) u v := I
  obtain ⟨le, pc, co, pk, x_low, x_encoderRange, x_cache, x_pending, x_readPosition, x_decoderRange, x_code, x_decoderStep, x_energies, x_pulses, x_decoded, x_vec, x_sizes, y_low, y_rng, y_cache, y_pending, y_rpos, y_drng, y_dcode, y_dr, y_encQ, y_encP, y_decQ, y_decP, y_decC, y_vec, y_work, y_vt, rfl, rfl, hl, hk, hc, hB, ht, ht2, hq, e1, e2, p1, p2, dC, vv⟩ := I
  rcases pq_rng v1 (n := 8) (m := 7) rfl (by decide) with a | ⟨a, b, c, _⟩ | ⟨j, hj, rfl⟩
  · exact br_t a (br_t a ⟨rfl, I2⟩)
  · exact br_f a (br_f b (br_f a (br_f c ⟨rfl, I2⟩)))
  · have i1 : vp_in (nI j) 8 := vp_in_nI hj (by decide)
    refine br_f (nI_pos (by omega)) (br_t (nI_lt (b := 8) hj (by decide)) ⟨i1, br_f (nI_pos (by omega)) (br_t (nI_le (b := 7) (by omega) (by decide)) ⟨i1, ?_, I2⟩)⟩)
    rw [nI_clamp (by omega)]
    all_goals exact (vv j hj).1.symm
theorem i_vc_packetLength {k : Nat} {u : SX} {v : SY} (I : i_Rel k u v) (hk : k + 4 ≤ 2052) : wpX_packetLength (fun r => wpY_packetLength (fun r' => r' = r ∧ i_Rel (k + 4) u v) v) u := by
  have I2 : i_Rel (k + 4) u v := I
  obtain ⟨le, pc, co, pk, x_low, x_encoderRange, x_cache, x_pending, x_readPosition, x_decoderRange, x_code, x_decoderStep, x_energies, x_pulses, x_decoded, x_vec, x_sizes, y_low, y_rng, y_cache, y_pending, y_rpos, y_drng, y_dcode, y_dr, y_encQ, y_encP, y_decQ, y_decP, y_decC, y_vec, y_work, y_vt, rfl, rfl, hl, hk, hc, hB, ht, ht2, hq, e1, e2, p1, p2, dC, vv⟩ := I
  exact ⟨rfl, I2⟩
theorem i_vc_packetByte {k : Nat} {u : SX} {v : SY} (I : i_Rel k u v) (hk : k + 4 ≤ 2052) (v1 : Int32) : wpX_packetByte (fun r => wpY_packetByte (fun r' => r' = r ∧ i_Rel (k + 4) u v) v v1) u v1 := by
  have I2 : i_Rel (k + 4) u v := I
  obtain ⟨le, pc, co, pk, x_low, x_encoderRange, x_cache, x_pending, x_readPosition, x_decoderRange, x_code, x_decoderStep, x_energies, x_pulses, x_decoded, x_vec, x_sizes, y_low, y_rng, y_cache, y_pending, y_rpos, y_drng, y_dcode, y_dr, y_encQ, y_encP, y_decQ, y_decP, y_decC, y_vec, y_work, y_vt, rfl, rfl, hl, hk, hc, hB, ht, ht2, hq, e1, e2, p1, p2, dC, vv⟩ := I
  rcases pq_rng v1 (n := 64) (m := 63) rfl (by decide) with a | ⟨a, b, c, d⟩ | ⟨j, hj, rfl⟩
  · exact br_t a (br_t a ⟨rfl, I2⟩)
  · have z : ¬ v1 < nI le := by
      intro y
      have y1 := Int32.lt_iff_toInt_lt.mp y
      have y2 := Int32.le_iff_toInt_le.mp d
      rw [nI_toInt (by omega)] at y1 y2
      omega
    exact br_f a (br_t d (br_f a (br_f z ⟨rfl, I2⟩)))
  · have i1 : vp_in (nI j) 64 := vp_in_nI hj (by decide)
    refine br_f (nI_pos (by omega)) (br_f (nI_ge (b := 64) hj (by decide)) ?_)
    by_cases c : j < le
    · exact br_t (nI_lt c (by omega)) ⟨i1, br_f (nI_pos (by omega)) (br_t (nI_lt c (by omega)) ⟨i1, rfl, I2⟩)⟩
    · exact br_f (nI_nlt (by omega) (by omega)) (br_f (nI_pos (by omega)) (br_f (nI_nlt (by omega) (by omega)) ⟨rfl, I2⟩))
theorem i_vc_putByte {k : Nat} {u : SX} {v : SY} (I : i_Rel k u v) (hk : k + 4 ≤ 2052) (v1 : Int32) (v2 : Int32) : wpX_putByte (fun r u' => wpY_putByte (fun r' v' => r' = r ∧ i_Rel (k + 4) u' v') v v1 v2) u v1 v2 := by
  obtain ⟨le, pc, co, pk, x_low, x_encoderRange, x_cache, x_pending, x_readPosition, x_decoderRange, x_code, x_decoderStep, x_energies, x_pulses, x_decoded, x_vec, x_sizes, y_low, y_rng, y_cache, y_pending, y_rpos, y_drng, y_dcode, y_dr, y_encQ, y_encP, y_decQ, y_decP, y_decC, y_vec, y_work, y_vt, rfl, rfl, hl, hk, hc, hB, ht, ht2, hq, e1, e2, p1, p2, dC, vv⟩ := I
  rcases pq_rng v1 (n := 64) (m := 63) rfl (by decide) with a | ⟨a, b, c, d⟩ | ⟨j, hj, rfl⟩
  · exact br_t a (br_t a ⟨rfl, pq_mk ⟨hl, hk, hc, hB, ht, ht2, hq, e1, e2, p1, p2, dC, vv⟩⟩)
  · exact br_f a (br_t d (br_f a (br_t d ⟨rfl, pq_mk ⟨hl, hk, hc, hB, ht, ht2, hq, e1, e2, p1, p2, dC, vv⟩⟩)))
  · have i1 : vp_in (nI j) 64 := vp_in_nI hj (by decide)
    obtain ⟨w, hw, ew⟩ := pk_andE v2 (m := 255) 8 (by decide)
    have hw2 : w < 256 := hw
    refine br_f (nI_pos (by omega)) (br_f (nI_ge (b := 64) hj (by decide)) ?_)
    by_cases c : j ≤ le
    · refine br_t (nI_le c (by omega)) ⟨i1, nm_r (e' := upd pk j (nI w)) (by rw [nI_clamp (by omega), ew]) ?_⟩
      by_cases z : j = le
      · have z1 : nI j = nI le := by rw [z]
        refine br_t z1 (nm_r (nI_1 le) (br_f (nI_pos (by omega)) (br_f (nI_ge (b := 64) hj (by decide)) (br_t (nI_le c (by omega)) ⟨i1, nm_r (e' := upd pk j (nI w)) (by rw [nI_clamp (by omega), ew]) (br_t z1 (nm_r (nI_1 le) ⟨rfl, pq_mk ⟨by omega, hk, hc, pq_B_u hB hw2, ht, ht2, hq, e1, e2, p1, p2, dC, vv⟩⟩))⟩))))
      · have z1 : ¬ nI j = nI le := fun y => z ((nI_eq (by omega) (by omega)).mp y)
        refine br_f z1 (br_f (nI_pos (by omega)) (br_f (nI_ge (b := 64) hj (by decide)) (br_t (nI_le c (by omega)) ⟨i1, nm_r (e' := upd pk j (nI w)) (by rw [nI_clamp (by omega), ew]) (br_f z1 ⟨rfl, pq_mk ⟨hl, hk, hc, pq_B_u hB hw2, ht, ht2, hq, e1, e2, p1, p2, dC, vv⟩⟩)⟩)))
    · refine br_f (nI_ge (by omega) (by omega)) (br_f (nI_pos (by omega)) (br_f (nI_ge (b := 64) hj (by decide)) (br_f (nI_ge (by omega) (by omega)) ⟨rfl, pq_mk ⟨hl, hk, hc, hB, ht, ht2, hq, e1, e2, p1, p2, dC, vv⟩⟩)))
theorem i_vc_energyQ {k : Nat} {u : SX} {v : SY} (I : i_Rel k u v) (hk : k + 4 ≤ 2052) (v1 : Int32) (v2 : Int32) : wpX_energyQ (fun r => wpY_energyQ (fun r' => r' = r ∧ i_Rel (k + 4) u v) v v1 v2) u v1 v2 := by
  have I2 : i_Rel (k + 4) u v := I
  obtain ⟨le, pc, co, pk, x_low, x_encoderRange, x_cache, x_pending, x_readPosition, x_decoderRange, x_code, x_decoderStep, x_energies, x_pulses, x_decoded, x_vec, x_sizes, y_low, y_rng, y_cache, y_pending, y_rpos, y_drng, y_dcode, y_dr, y_encQ, y_encP, y_decQ, y_decP, y_decC, y_vec, y_work, y_vt, rfl, rfl, hl, hk, hc, hB, ht, ht2, hq, e1, e2, p1, p2, dC, vv⟩ := I
  by_cases s0 : v1 = 0
  · subst s0
    refine br_t rfl ?_
    rcases pq_rng v2 (n := 4) (m := 3) rfl (by decide) with a | ⟨a, b, c, _⟩ | ⟨j, hj, rfl⟩
    · exact br_t a (br_t rfl (br_t a ⟨rfl, I2⟩))
    · exact br_f a (br_f b (br_t rfl (br_f a (br_f c ⟨rfl, I2⟩))))
    · have ei : (0 : Int32) * 4 + nI j = nI j := by rw [show (0 : Int32) * 4 = 0 by decide, pq_0i]
      refine br_f (nI_pos (by omega)) (br_t (nI_lt (b := 4) hj (by decide)) ⟨pk_in j 8 (by omega) ei, br_t rfl (br_f (nI_pos (by omega)) (br_t (nI_le (b := 3) (by omega) (by decide)) (br_t rfl ⟨vp_in_nI hj (by decide), ?_, I2⟩)))⟩)
      rw [ei, nI_clamp (by omega)]
      exact (e1 j hj).symm
  · refine br_f s0 ?_
    by_cases s1 : v1 = 1
    · subst s1
      refine br_t rfl ?_
      rcases pq_rng v2 (n := 4) (m := 3) rfl (by decide) with a | ⟨a, b, c, _⟩ | ⟨j, hj, rfl⟩
      · exact br_t a (br_f s0 (br_t rfl (br_t a ⟨rfl, I2⟩)))
      · exact br_f a (br_f b (br_f s0 (br_t rfl (br_f a (br_f c ⟨rfl, I2⟩)))))
      · have ei : (1 : Int32) * 4 + nI j = nI (4 + j) := by rw [show (1 : Int32) * 4 = nI 4 by decide, nI_add]
        refine br_f (nI_pos (by omega)) (br_t (nI_lt (b := 4) hj (by decide)) ⟨pk_in (4 + j) 8 (by omega) ei, br_f s0 (br_t rfl (br_f (nI_pos (by omega)) (br_t (nI_le (b := 3) (by omega) (by decide)) (br_f s0 ⟨vp_in_nI hj (by decide), ?_, I2⟩))))⟩)
        rw [ei, nI_clamp (by omega), nI_clamp (by omega)]
        exact (e2 j hj).symm
    · exact br_f s1 (br_f s0 (br_f s1 ⟨rfl, I2⟩))
theorem i_vc_pulse {k : Nat} {u : SX} {v : SY} (I : i_Rel k u v) (hk : k + 4 ≤ 2052) (v1 : Int32) (v2 : Int32) : wpX_pulse (fun r => wpY_pulse (fun r' => r' = r ∧ i_Rel (k + 4) u v) v v1 v2) u v1 v2 := by
  have I2 : i_Rel (k + 4) u v := I
  obtain ⟨le, pc, co, pk, x_low, x_encoderRange, x_cache, x_pending, x_readPosition, x_decoderRange, x_code, x_decoderStep, x_energies, x_pulses, x_decoded, x_vec, x_sizes, y_low, y_rng, y_cache, y_pending, y_rpos, y_drng, y_dcode, y_dr, y_encQ, y_encP, y_decQ, y_decP, y_decC, y_vec, y_work, y_vt, rfl, rfl, hl, hk, hc, hB, ht, ht2, hq, e1, e2, p1, p2, dC, vv⟩ := I
  by_cases s0 : v1 = 0
  · subst s0
    refine br_t rfl ?_
    rcases pq_rng v2 (n := 32) (m := 31) rfl (by decide) with a | ⟨a, b, c, _⟩ | ⟨j, hj, rfl⟩
    · exact br_t a (br_t rfl (br_t a ⟨rfl, I2⟩))
    · exact br_f a (br_f b (br_t rfl (br_f a (br_f c ⟨rfl, I2⟩))))
    · have ei : (0 : Int32) * 32 + nI j = nI j := by rw [show (0 : Int32) * 32 = 0 by decide, pq_0i]
      refine br_f (nI_pos (by omega)) (br_t (nI_lt (b := 32) hj (by decide)) ⟨pk_in j 64 (by omega) ei, br_t rfl (br_f (nI_pos (by omega)) (br_t (nI_le (b := 31) (by omega) (by decide)) (br_t rfl ⟨vp_in_nI hj (by decide), ?_, I2⟩)))⟩)
      rw [ei, nI_clamp (by omega)]
      exact (p1 j hj).symm
  · refine br_f s0 ?_
    by_cases s1 : v1 = 1
    · subst s1
      refine br_t rfl ?_
      rcases pq_rng v2 (n := 32) (m := 31) rfl (by decide) with a | ⟨a, b, c, _⟩ | ⟨j, hj, rfl⟩
      · exact br_t a (br_f s0 (br_t rfl (br_t a ⟨rfl, I2⟩)))
      · exact br_f a (br_f b (br_f s0 (br_t rfl (br_f a (br_f c ⟨rfl, I2⟩)))))
      · have ei : (1 : Int32) * 32 + nI j = nI (32 + j) := by rw [show (1 : Int32) * 32 = nI 32 by decide, nI_add]
        refine br_f (nI_pos (by omega)) (br_t (nI_lt (b := 32) hj (by decide)) ⟨pk_in (32 + j) 64 (by omega) ei, br_f s0 (br_t rfl (br_f (nI_pos (by omega)) (br_t (nI_le (b := 31) (by omega) (by decide)) (br_f s0 ⟨vp_in_nI hj (by decide), ?_, I2⟩))))⟩)
        rw [ei, nI_clamp (by omega), nI_clamp (by omega)]
        exact (p2 j hj).symm
    · exact br_f s1 (br_f s0 (br_f s1 ⟨rfl, I2⟩))
theorem i_vc_setVec {k : Nat} {u : SX} {v : SY} (I : i_Rel k u v) (hk : k + 4 ≤ 2052) (v1 : Int32) (v2 : Int32) : wpX_setVec (fun r u' => wpY_setVec (fun r' v' => r' = r ∧ i_Rel (k + 4) u' v') v v1 v2) u v1 v2 := by
  obtain ⟨le, pc, co, pk, x_low, x_encoderRange, x_cache, x_pending, x_readPosition, x_decoderRange, x_code, x_decoderStep, x_energies, x_pulses, x_decoded, x_vec, x_sizes, y_low, y_rng, y_cache, y_pending, y_rpos, y_drng, y_dcode, y_dr, y_encQ, y_encP, y_decQ, y_decP, y_decC, y_vec, y_work, y_vt, rfl, rfl, hl, hk, hc, hB, ht, ht2, hq, e1, e2, p1, p2, dC, vv⟩ := I
  rcases pq_rng v1 (n := 8) (m := 7) rfl (by decide) with a | ⟨a, b, c, _⟩ | ⟨j, hj, rfl⟩
  · exact br_t a (br_t a ⟨rfl, pq_mk ⟨hl, hk, hc, hB, ht, ht2, hq, e1, e2, p1, p2, dC, vv⟩⟩)
  · exact br_f a (br_f b (br_f a (br_f c ⟨rfl, pq_mk ⟨hl, hk, hc, hB, ht, ht2, hq, e1, e2, p1, p2, dC, vv⟩⟩)))
  · have i1 : vp_in (nI j) 8 := vp_in_nI hj (by decide)
    refine br_f (nI_pos (by omega)) (br_t (nI_lt (b := 8) hj (by decide)) (px_clamp ⟨i1, nm_e (br_f (nI_pos (by omega)) (br_t (nI_le (b := 7) (by omega) (by decide)) (py_clamp ⟨i1, nm_e ⟨rfl, pq_mk ⟨hl, hk, hc, hB, ht, ht2, hq, e1, e2, p1, p2, dC, ?_⟩⟩⟩)))⟩))
    intro i hi
    by_cases z : i = (nI j).toNatClampNeg
    · rw [← z, pk_us, pk_us]; exact ⟨rfl, pq_cl_m v2 (c := 16) (C := 16) (by decide) rfl⟩
    · rw [pk_un z, pk_un z]; exact vv i hi
theorem i_vc_pyramidSize {k : Nat} {u : SX} {v : SY} (I : i_Rel k u v) (hk : k + 4 ≤ 2052) (v1 : Int32) (v2 : Int32) : wpX_pyramidSize (fun r => wpY_pyramidSize (fun r' => r' = r ∧ i_Rel (k + 4) u v) v v1 v2) u v1 v2 := by
  have I2 : i_Rel (k + 4) u v := I
  obtain ⟨le, pc, co, pk, x_low, x_encoderRange, x_cache, x_pending, x_readPosition, x_decoderRange, x_code, x_decoderStep, x_energies, x_pulses, x_decoded, x_vec, x_sizes, y_low, y_rng, y_cache, y_pending, y_rpos, y_drng, y_dcode, y_dr, y_encQ, y_encP, y_decQ, y_decP, y_decC, y_vec, y_work, y_vt, rfl, rfl, hl, hk, hc, hB, ht, ht2, hq, e1, e2, p1, p2, dC, vv⟩ := I
  rcases pq_rng v1 (n := 9) (m := 8) rfl (by decide) with a | ⟨a, _, c, _⟩ | ⟨n, hn, rfl⟩
  · exact br_t a (br_t a ⟨rfl, I2⟩)
  · have c2 := Int32.not_le.mp c
    exact br_f a (br_t c2 (br_f a (br_t c2 ⟨rfl, I2⟩)))
  · have n1 : ¬ (8 : Int32) < nI n := nI_nlt (a := 8) (by omega) (by decide)
    have n0 : ¬ nI n < 0 := nI_pos (by omega)
    rcases pq_rng v2 (n := 17) (m := 16) rfl (by decide) with a | ⟨a, _, c, _⟩ | ⟨q, hq2, rfl⟩
    · exact br_f n0 (br_f n1 (br_t a (br_f n0 (br_f n1 (br_t a ⟨rfl, I2⟩)))))
    · exact br_f n0 (br_f n1 (br_f a (br_f c (br_f n0 (br_f n1 (br_f a (br_f c ⟨rfl, I2⟩)))))))
    · have q0 : ¬ nI q < 0 := nI_pos (by omega)
      have q1 : nI q ≤ 16 := nI_le (b := 16) (by omega) (by decide)
      exact br_f n0 (br_f n1 (br_f q0 (br_t q1 (px_size (n := n) (k := q) ht (by omega) (by omega) rfl rfl (br_f n0 (br_f n1 (br_f q0 (br_t q1 (py_vv (n := n) (k := q) ht2 (by omega) (by omega) rfl rfl ⟨rfl, I2⟩)))))))))
end PQR
end
section
/-! the vectors and the frames -/
theorem pq_M_S (a : Nat → Int32) : ∀ n i, pq_S (fun j => pq_mg (a j)) (i + n) = pq_S (fun j => pq_mg (a j)) i + pq_M a i n := by
  intro n
  induction n with
  | zero => intro i; rfl
  | succ n ih =>
    intro i
    have h := ih (i + 1)
    rw [show i + (n + 1) = i + 1 + n by omega, h]
    show pq_S (fun j => pq_mg (a j)) i + pq_mg (a i) + pq_M a (i + 1) n = pq_S (fun j => pq_mg (a j)) i + (pq_mg (a i) + pq_M a (i + 1) n)
    omega
theorem pq_M_0 (a : Nat → Int32) (n : Nat) : pq_M a 0 n = pq_S (fun j => pq_mg (a j)) n := by
  have h := pq_M_S a n 0
  rw [Nat.zero_add] at h
  rw [h]
  exact (Nat.zero_add _).symm
theorem pq_32 {f g : Nat → Int32} (h : ∀ c j, c < 4 → j < 8 → f (8 * c + j) = g (8 * c + j)) : ∀ i, i < 32 → f i = g i := by
  intro i hi
  have := h (i / 8) (i % 8) (by omega) (by omega)
  rw [Nat.div_add_mod] at this
  exact this
def pq_vi (a : Nat → Int32) (n : Nat) : Int32 := if pq_M a 0 n ≤ 16 then nI (pq_ix a 0 n (pq_M a 0 n)) else -1000000
theorem pq_qf_ext {dq dq' pk : Nat → Int32} {le : Nat} {pc : Nat → Int32} {b : Nat} (h : dq b = dq' b) : pq_qf dq pk le pc b = pq_qf dq' pk le pc b := by
  unfold pq_qf
  rw [h]
theorem pq_qn_ext {dq dq' pk : Nat → Int32} {le : Nat} {pc : Nat → Int32} {b : Nat} (h : dq b = dq' b) : pq_qn dq pk le pc b = pq_qn dq' pk le pc b := by
  unfold pq_qn
  rw [pq_qf_ext h]
section PQV
variable {x_length x_cache x_pending x_readPosition : Int32} {x_low x_encoderRange x_decoderRange x_code x_decoderStep : Int64} {x_pulseCounts x_coefs x_energies x_pulses x_decoded x_vec x_sizes x_packet : Nat → Int32}
variable {y_pktLen y_pending y_rpos : Int32} {y_low y_rng y_cache y_drng y_dcode y_dr : Int64} {y_kb y_inp y_encQ y_encP y_decQ y_decP y_decC y_pkt y_vec y_work y_vt : Nat → Int32}
variable {le : Nat} {pc co pk : Nat → Int32}
theorem px_vi18 {post : Int32 → Prop} {n : Nat} (hn : n ≤ 8) (ht : pq_tb x_sizes) (hv : ∀ i, i < 8 → pq_mg (x_vec i) ≤ 16) (h : post (pq_vi x_vec n)) : ∀ d i, i + d = n → wX_vecIndex_18 post (nI n) x_length x_low x_encoderRange x_cache x_pending x_readPosition x_decoderRange x_code x_decoderStep x_pulseCounts x_coefs x_energies x_pulses x_decoded x_vec x_sizes x_packet (d + 1) (nI (pq_S (fun j => pq_mg (x_vec j)) i)) (nI i) := by
  have hS : ∀ i, i ≤ n → pq_S (fun j => pq_mg (x_vec j)) i ≤ i * 16 := fun i hi => pq_S_le _ _ i (fun j hj => hv j (by omega))
  intro d
  induction d with
  | zero =>
    intro i hi
    have e : i = n := by omega
    subst e
    have hM := pq_M_0 x_vec i
    have hb := hS i (Nat.le_refl _)
    rw [← hM] at hb ⊢
    unfold pq_vi at h
    refine br_t (nI_le (Nat.le_refl _) (by omega)) ?_
    by_cases c : pq_M x_vec 0 i ≤ 16
    · rw [if_pos c] at h
      refine br_t (nI_le (b := 16) c (by decide)) (px_vecix (fr := 0) (n := i) (k := pq_M x_vec 0 i) ht hn (by omega) c ?_ rfl rfl rfl ?_)
      · exact pq_M_ext i 0 (fun j _ _ => by rw [Nat.zero_add])
      · rw [pq_ix_ext (a := fun j => x_vec (0 + j)) (c := x_vec) i 0 _ (fun j _ _ => by rw [Nat.zero_add])]
        exact h
    · rw [if_neg c] at h
      exact br_f (nI_ge (b := pq_M x_vec 0 i) (a := 16) (by omega) (by omega)) h
  | succ d ih =>
    intro i hi
    have hb := hS i (by omega)
    refine br_f (nI_ge (by omega) (by omega)) ⟨vp_in_nI (by omega) (by decide), ?_⟩
    rw [nI_clamp (by omega)]
    exact px_mag (nm_r (nI_add _ _) (nm_r (nI_1 i) (ih (i + 1) (by omega))))
theorem py_vi18 {post : Int32 → SY → Prop} {n : Nat} (hn : n ≤ 8) (ht : pq_tb y_vt) (hv : ∀ i, i < 8 → pq_mg (y_vec i) ≤ 16) (h : ∀ w : Nat → Int32, post (pq_vi y_vec n) (y_pktLen, y_low, y_rng, y_cache, y_pending, y_rpos, y_drng, y_dcode, y_dr, y_kb, y_inp, y_encQ, y_encP, y_decQ, y_decP, y_decC, y_pkt, y_vec, w, y_vt)) : ∀ d i (w : Nat → Int32), i + d = n → (∀ t, t < i → w t = y_vec t) → wY_vecIndex_18 post (nI n) y_pktLen y_low y_rng y_cache y_pending y_rpos y_drng y_dcode y_dr (d + 1) (nI (pq_S (fun j => pq_mg (y_vec j)) i)) (nI i) y_kb y_inp y_encQ y_encP y_decQ y_decP y_decC y_pkt y_vec w y_vt := by
  have hS : ∀ i, i ≤ n → pq_S (fun j => pq_mg (y_vec j)) i ≤ i * 16 := fun i hi => pq_S_le _ _ i (fun j hj => hv j (by omega))
  intro d
  induction d with
  | zero =>
    intro i w hi hw
    have e : i = n := by omega
    subst e
    have hM := pq_M_0 y_vec i
    have hb := hS i (Nat.le_refl _)
    rw [← hM] at hb ⊢
    have h2 := h w
    unfold pq_vi at h2
    refine br_t (nI_le (Nat.le_refl _) (by omega)) ?_
    by_cases c : pq_M y_vec 0 i ≤ 16
    · rw [if_pos c] at h2
      refine br_t (nI_le (b := 16) c (by decide)) (py_ix (y_work := w) (n := i) (k := pq_M y_vec 0 i) ht hn c ?_ rfl rfl ?_)
      · exact pq_M_ext i 0 (fun j _ hj => hw j (by omega))
      · rw [pq_ix_ext (a := w) (c := y_vec) i 0 _ (fun j _ hj => hw j (by omega))]
        exact h2
    · rw [if_neg c] at h2
      exact br_f (nI_ge (b := pq_M y_vec 0 i) (a := 16) (by omega) (by omega)) h2
  | succ d ih =>
    intro i w hi hw
    have hb := hS i (by omega)
    have i1 : vp_in (nI i) 8 := vp_in_nI (by omega) (by decide)
    have IH := ih (i + 1) (upd w i (y_vec i)) (by omega) (by
      intro t ht
      by_cases z : t = i
      · subst z; exact pk_us
      · rw [pk_un z]; exact hw t (by omega))
    refine br_f (nI_ge (by omega) (by omega)) ⟨i1, i1, nm_r (e' := upd w i (y_vec i)) (by rw [nI_clamp (by omega)]) ⟨i1, ?_⟩⟩
    rw [nI_clamp (by omega)]
    by_cases c : y_vec i < 0
    · exact br_f (pq_nle0 c) ⟨i1, nm_r (e' := nI (pq_S (fun j => pq_mg (y_vec j)) (i + 1))) (by rw [pq_mg_n c, nI_add]; rfl) (nm_r (nI_1 i) IH)⟩
    · refine br_t (pq_nlt0 c) ⟨i1, nm_r (e' := nI (pq_S (fun j => pq_mg (y_vec j)) (i + 1))) ?_ (nm_r (nI_1 i) IH)⟩
      have e := pq_mg_p c
      have e2 : nI (pq_S (fun j => pq_mg (y_vec j)) i) + nI (pq_mg (y_vec i)) = nI (pq_S (fun j => pq_mg (y_vec j)) (i + 1)) := nI_add _ _
      rw [← e] at e2
      exact e2
theorem pq_vi_ext {a c : Nat → Int32} {n : Nat} (h : ∀ i, i < n → a i = c i) : pq_vi a n = pq_vi c n := by
  have e := pq_M_ext (a := a) (c := c) n 0 (fun j _ hj => h j (by omega))
  unfold pq_vi
  rw [e, pq_ix_ext (a := a) (c := c) n 0 _ (fun j _ hj => h j (by omega))]
theorem i_vc_vecIndex {k : Nat} {u : SX} {v : SY} (I : i_Rel k u v) (hk : k + 4 ≤ 2052) (v1 : Int32) : wpX_vecIndex (fun r => wpY_vecIndex (fun r' v' => r' = r ∧ i_Rel (k + 4) u v') v v1) u v1 := by
  obtain ⟨le, pc, co, pk, x_low, x_encoderRange, x_cache, x_pending, x_readPosition, x_decoderRange, x_code, x_decoderStep, x_energies, x_pulses, x_decoded, x_vec, x_sizes, y_low, y_rng, y_cache, y_pending, y_rpos, y_drng, y_dcode, y_dr, y_encQ, y_encP, y_decQ, y_decP, y_decC, y_vec, y_work, y_vt, rfl, rfl, hl, hk, hc, hB, ht, ht2, hq, e1, e2, p1, p2, dC, vv⟩ := I
  have F : pq_F le pc co pk x_energies x_pulses x_decoded x_vec x_sizes y_encQ y_encP y_decQ y_decP y_decC y_vec y_vt := ⟨hl, hk, hc, hB, ht, ht2, hq, e1, e2, p1, p2, dC, vv⟩
  rcases pq_rng v1 (n := 9) (m := 8) rfl (by decide) with a | ⟨a, _, c, d⟩ | ⟨n, hn, rfl⟩
  · have a1 : v1 < 1 := Int32.lt_trans a (by decide)
    exact br_t a1 (br_t a1 ⟨rfl, pq_mk F⟩)
  · have a1 : ¬ v1 < 1 := by
      intro y
      have y1 := Int32.lt_iff_toInt_lt.mp y
      have y2 := Int32.le_iff_toInt_le.mp d
      rw [nI_toInt (by decide)] at y2
      rw [show (1 : Int32).toInt = 1 by decide] at y1
      omega
    exact br_f a1 (br_f c (br_f a1 (br_f c ⟨rfl, pq_mk F⟩)))
  · by_cases z : n = 0
    · subst z
      have a1 : nI 0 < 1 := by decide
      exact br_t a1 (br_t a1 ⟨rfl, pq_mk F⟩)
    · have a1 : ¬ nI n < 1 := nI_nlt (b := 1) (by omega) (by omega)
      have a2 : nI n ≤ 8 := nI_le (b := 8) (by omega) (by decide)
      refine br_f a1 (br_t a2 ⟨n + 1, px_vi18 (by omega) ht (fun i hi => (vv i hi).2) ?_ n 0 (by omega)⟩)
      refine br_f a1 (br_t a2 ⟨n + 1, py_vi18 (by omega) ht2 (fun i hi => by rw [← (vv i hi).1]; exact (vv i hi).2) ?_ n 0 y_work (by omega) (fun t h => absurd h (Nat.not_lt_zero t))⟩)
      intro w
      exact ⟨pq_vi_ext (fun i hi => (vv i (by omega)).1.symm), pq_mk F⟩
theorem px_vu56 {post : Int32 → SX → Prop} {n : Nat} {Y : Nat → Int32} (hn : n ≤ 8) (K : ∀ w : Nat → Int32, (∀ t, t < n → w t = Y t) → (∀ t, n ≤ t → t < 8 → w t = 0) → post 1 (x_length, x_low, x_encoderRange, x_cache, x_pending, x_readPosition, x_decoderRange, x_code, x_decoderStep, x_pulseCounts, x_coefs, x_energies, x_pulses, x_decoded, w, x_sizes, x_packet)) : ∀ d i (w : Nat → Int32), i + d = 8 → n ≤ i → (∀ t, t < n → w t = Y t) → (∀ t, n ≤ t → t < i → w t = 0) → wX_vecUnindex_56 post x_length x_low x_encoderRange x_cache x_pending x_readPosition x_decoderRange x_code x_decoderStep (d + 1) (nI i) x_pulseCounts x_coefs x_energies x_pulses x_decoded w x_sizes x_packet := by
  intro d
  induction d with
  | zero =>
    intro i w hi hi2 h1 h2
    have e : i = 8 := by omega
    subst e
    exact br_t (nI_le (a := 8) (Nat.le_refl _) (by decide)) (K w h1 h2)
  | succ d ih =>
    intro i w hi hi2 h1 h2
    refine br_f (nI_ge (b := 8) (by omega) (by decide)) ⟨vp_in_nI (by omega) (by decide), nm_r (e' := upd w i 0) (by rw [nI_clamp (by omega)]) (nm_r (nI_1 i) (ih (i + 1) _ (by omega) (by omega) ?_ ?_))⟩
    · intro t ht
      rw [pk_un (by omega)]
      exact h1 t ht
    · intro t ht1 ht2
      by_cases z : t = i
      · subst z; exact pk_us
      · rw [pk_un z]; exact h2 t ht1 (by omega)
theorem py_vu51 {post : Int32 → SY → Prop} (K : ∀ w : Nat → Int32, (∀ t, t < 8 → w t = y_work t) → post 1 (y_pktLen, y_low, y_rng, y_cache, y_pending, y_rpos, y_drng, y_dcode, y_dr, y_kb, y_inp, y_encQ, y_encP, y_decQ, y_decP, y_decC, y_pkt, w, y_work, y_vt)) : ∀ d i (w : Nat → Int32), i + d = 8 → (∀ t, t < i → w t = y_work t) → wY_vecUnindex_51 post y_pktLen y_low y_rng y_cache y_pending y_rpos y_drng y_dcode y_dr (d + 1) (nI i) y_kb y_inp y_encQ y_encP y_decQ y_decP y_decC y_pkt w y_work y_vt := by
  intro d
  induction d with
  | zero =>
    intro i w hi h1
    have e : i = 8 := by omega
    subst e
    exact br_t (nI_le (a := 8) (Nat.le_refl _) (by decide)) (K w h1)
  | succ d ih =>
    intro i w hi h1
    have i1 : vp_in (nI i) 8 := vp_in_nI (by omega) (by decide)
    refine br_f (nI_ge (b := 8) (by omega) (by decide)) ⟨i1, i1, nm_r (e' := upd w i (y_work i)) (by rw [nI_clamp (by omega)]) (nm_r (nI_1 i) (ih (i + 1) _ (by omega) ?_))⟩
    intro t ht
    by_cases z : t = i
    · subst z; exact pk_us
    · rw [pk_un z]; exact h1 t (by omega)
theorem i_vc_vecUnindex {k : Nat} {u : SX} {v : SY} (I : i_Rel k u v) (hk : k + 4 ≤ 2052) (v1 : Int32) (v2 : Int32) (v3 : Int32) : wpX_vecUnindex (fun r u' => wpY_vecUnindex (fun r' v' => r' = r ∧ i_Rel (k + 4) u' v') v v1 v2 v3) u v1 v2 v3 := by
  obtain ⟨le, pc, co, pk, x_low, x_encoderRange, x_cache, x_pending, x_readPosition, x_decoderRange, x_code, x_decoderStep, x_energies, x_pulses, x_decoded, x_vec, x_sizes, y_low, y_rng, y_cache, y_pending, y_rpos, y_drng, y_dcode, y_dr, y_encQ, y_encP, y_decQ, y_decP, y_decC, y_vec, y_work, y_vt, rfl, rfl, hl, hk, hc, hB, ht, ht2, hq, e1, e2, p1, p2, dC, vv⟩ := I
  have F : pq_F le pc co pk x_energies x_pulses x_decoded x_vec x_sizes y_encQ y_encP y_decQ y_decP y_decC y_vec y_vt := ⟨hl, hk, hc, hB, ht, ht2, hq, e1, e2, p1, p2, dC, vv⟩
  rcases pq_rng v1 (n := 9) (m := 8) rfl (by decide) with a | ⟨a, _, c, d⟩ | ⟨n, hn, rfl⟩
  · have a1 : v1 < 1 := Int32.lt_trans a (by decide)
    exact br_t a1 (br_t a1 ⟨rfl, pq_mk F⟩)
  · have a1 : ¬ v1 < 1 := by
      intro y
      have y1 := Int32.lt_iff_toInt_lt.mp y
      have y2 := Int32.le_iff_toInt_le.mp d
      rw [nI_toInt (by decide)] at y2
      rw [show (1 : Int32).toInt = 1 by decide] at y1
      omega
    exact br_f a1 (br_f c (br_f a1 (br_f c ⟨rfl, pq_mk F⟩)))
  · by_cases z : n = 0
    · subst z
      have a1 : nI 0 < 1 := by decide
      exact br_t a1 (br_t a1 ⟨rfl, pq_mk F⟩)
    · have a1 : ¬ nI n < 1 := nI_nlt (b := 1) (by omega) (by omega)
      have a2 : nI n ≤ 8 := nI_le (b := 8) (by omega) (by decide)
      rcases pq_rng v2 (n := 17) (m := 16) rfl (by decide) with b | ⟨b, _, c, _⟩ | ⟨q, hq2, rfl⟩
      · exact br_f a1 (br_t a2 (br_t b (br_f a1 (br_t a2 (br_t b ⟨rfl, pq_mk F⟩)))))
      · exact br_f a1 (br_t a2 (br_f b (br_f c (br_f a1 (br_t a2 (br_f b (br_f c ⟨rfl, pq_mk F⟩)))))))
      · have b1 : ¬ nI q < 0 := nI_pos (by omega)
        have b2 : nI q ≤ 16 := nI_le (b := 16) (by omega) (by decide)
        have hV := pq_Vle (n := n) (k := q) (by omega) (by omega)
        by_cases c : v3 < 0
        · exact br_f a1 (br_t a2 (br_f b1 (br_t b2 (br_t c (br_f a1 (br_t a2 (br_f b1 (br_t b2 (br_t c ⟨rfl, pq_mk F⟩)))))))))
        · obtain ⟨r, hr, rfl⟩ := nI_of c
          refine br_f a1 (br_t a2 (br_f b1 (br_t b2 (br_f c (px_size (n := n) (k := q) ht (by omega) (by omega) rfl rfl ?_)))))
          by_cases w : r < pq_V n q
          · have w1 : nI r < nI (pq_V n q) := nI_lt w (by omega)
            refine br_t w1 (px_vecun (fr := 0) (n := n) (k := q) (r := r) ht (by omega) (by omega) (by omega) w rfl rfl rfl rfl ?_)
            intro c' g1 _
            refine ⟨8 - n + 1, px_vu56 (Y := pq_y n q r) (by omega) ?_ (8 - n) n c' (by omega) (Nat.le_refl _) (fun t ht => by have := g1 t ht; rw [Nat.zero_add] at this; exact this) (fun t a b => by omega)⟩
            intro wx s1 s2
            refine br_f a1 (br_t a2 (br_f b1 (br_t b2 (br_f c (py_vv (n := n) (k := q) ht2 (by omega) (by omega) rfl rfl (br_t w1 (py_un (n := n) (k := q) (r := r) ht2 (by omega) (by omega) w rfl rfl rfl ?_)))))))
            intro wk t1 t2
            refine ⟨9, py_vu51 ?_ 8 0 y_vec (by omega) (fun t h => absurd h (Nat.not_lt_zero t))⟩
            intro wy r1
            refine ⟨rfl, pq_mk ⟨hl, hk, hc, hB, ht, ht2, hq, e1, e2, p1, p2, dC, ?_⟩⟩
            intro i hi
            by_cases y : i < n
            · rw [s1 i y, r1 i hi, t1 i y]
              exact ⟨rfl, pq_y_mg (by omega) (by omega) w y⟩
            · rw [s2 i (by omega) hi, r1 i hi, t2 i (by omega) hi]
              exact ⟨rfl, by decide⟩
          · have w1 : ¬ nI r < nI (pq_V n q) := nI_nlt (by omega) hr
            exact br_f w1 (br_f a1 (br_t a2 (br_f b1 (br_t b2 (br_f c (py_vv (n := n) (k := q) ht2 (by omega) (by omega) rfl rfl (br_f w1 ⟨rfl, pq_mk F⟩)))))))
theorem i_vc_encodeFrame {k : Nat} {u : SX} {v : SY} (I : i_Rel k u v) (hk : k + 4 ≤ 2052) : wpX_encodeFrame (fun r u' => wpY_encodeFrame (fun r' v' => r' = r ∧ i_Rel (k + 4) u' v') v) u := by
  obtain ⟨le, pc, co, pk, x_low, x_encoderRange, x_cache, x_pending, x_readPosition, x_decoderRange, x_code, x_decoderStep, x_energies, x_pulses, x_decoded, x_vec, x_sizes, y_low, y_rng, y_cache, y_pending, y_rpos, y_drng, y_dcode, y_dr, y_encQ, y_encP, y_decQ, y_decP, y_decC, y_vec, y_work, y_vt, rfl, rfl, hl, hk, hc, hB, ht, ht2, hq, e1, e2, p1, p2, dC, vv⟩ := I
  have hqY : pq_HQ y_encQ := by
    intro b hb
    rw [← e1 b hb]
    exact hq b hb
  have E : pq_eb (pq_clr pk 64) co pc x_energies 4 = pq_eb (pq_clr pk 64) co pc y_encQ 4 := pq_eb_ext 4 (fun j hj => e1 j hj)
  have W := pq_fl_w 5 _ _ (pq_eb_s (pq_clr_B hB 64) hc hk hqY 4 (Nat.le_refl _)).1
  refine px_encode hB ht hc hk hq ?_
  intro en pu a1 a2 a3 a4
  rw [E]
  refine py_encode hB ht2 hc hk hqY ?_
  intro en' pu' wk b1 b2
  refine ⟨rfl, pq_mk ⟨W.2.2.1, hk, hc, W.2.2.2, ht, ht2, ?_, ?_, ?_, ?_, ?_, dC, vv⟩⟩
  · intro b hb
    exact ⟨pq_q co b, pq_q_le hc hb, a1 b hb⟩
  · intro j hj
    rw [a1 j hj, b1 j hj]
  · intro j hj
    rw [a2 (4 + j) (by omega)]
    exact e2 j hj
  · exact pq_32 (fun c j hc2 hj => by rw [a3 c j hc2 hj, b2 c j hc2 hj])
  · intro i hi
    rw [a4 (32 + i) (by omega)]
    exact p2 i hi
theorem i_vc_decodeFrame {k : Nat} {u : SX} {v : SY} (I : i_Rel k u v) (hk : k + 4 ≤ 2052) : wpX_decodeFrame (fun u' => wpY_decodeFrame (fun v' => i_Rel (k + 4) u' v') v) u := by
  obtain ⟨le, pc, co, pk, x_low, x_encoderRange, x_cache, x_pending, x_readPosition, x_decoderRange, x_code, x_decoderStep, x_energies, x_pulses, x_decoded, x_vec, x_sizes, y_low, y_rng, y_cache, y_pending, y_rpos, y_drng, y_dcode, y_dr, y_encQ, y_encP, y_decQ, y_decP, y_decC, y_vec, y_work, y_vt, rfl, rfl, hl, hk, hc, hB, ht, ht2, hq, e1, e2, p1, p2, dC, vv⟩ := I
  refine px_decode hB hl ht hk ?_
  intro ds en pu de F a b
  refine py_decode hB hl ht2 hk ?_
  intro dr en' pu' de' wk F'
  refine pq_mk ⟨hl, hk, hc, hB, ht, ht2, ?_, ?_, ?_, ?_, ?_, ?_, vv⟩
  · intro j hj
    rw [a j hj]
    exact hq j hj
  · intro j hj
    rw [a j hj]
    exact e1 j hj
  · intro j hj
    have f1 : en (4 + j) = pq_qf (fun j => x_energies (4 + j)) pk le pc j := F.1 j hj
    rw [f1, F'.1 j hj]
    exact pq_qf_ext (e2 j hj)
  · intro i hi
    rw [b i hi]
    exact p1 i hi
  · exact pq_32 (f := fun i => pu (32 + i)) (fun c j hc2 hj => (F.2.1 c j hc2 hj).trans (F'.2.1 c j hc2 hj).symm)
  · refine pq_32 (fun c j hc2 hj => ?_)
    rw [F.2.2 c j hc2 hj, F'.2.2 c j hc2 hj, pq_qn_ext (dq := fun j => x_energies (4 + j)) (dq' := y_decQ) (b := c) (e2 c hc2)]
end PQV
end
