/-! the trip through the range coder -/
def pr_v (pk : Nat → Int32) : Nat → Nat
  | 0 => 0
  | i + 1 => pr_v pk i * 256 + (pk i).toNatClampNeg
theorem pr_v_u {pk : Nat → Int32} {n : Nat} {x : Int32} : ∀ i, i ≤ n → pr_v (upd pk n x) i = pr_v pk i := by
  intro i
  induction i with
  | zero => intro _; rfl
  | succ i ih =>
    intro h
    show pr_v (upd pk n x) i * 256 + (upd pk n x i).toNatClampNeg = pr_v pk i * 256 + (pk i).toNatClampNeg
    rw [ih (by omega), pk_un (by omega)]
theorem pr_em {x : Nat} {s : Nat × (Nat → Int32)} (hx : x < 256) (h : s.1 < 64) : (pq_em x s).1 = s.1 + 1 ∧ pr_v (pq_em x s).2 (pq_em x s).1 = pr_v s.2 s.1 * 256 + x := by
  unfold pq_em
  rw [if_pos h]
  refine ⟨rfl, ?_⟩
  show pr_v (upd s.2 s.1 (nI x)) s.1 * 256 + (upd s.2 s.1 (nI x) s.1).toNatClampNeg = _
  rw [pr_v_u s.1 (Nat.le_refl _), pk_us, nI_clamp (by omega)]
theorem pr_en1 {x : Nat} (hx : x < 256) : ∀ i (s : Nat × (Nat → Int32)), s.1 + i ≤ 64 → (pq_en x i s).1 = s.1 + i := by
  intro i
  induction i with
  | zero => intro s _; rfl
  | succ i ih =>
    intro s h
    have ⟨a, _⟩ := pr_em (x := x) (s := s) hx (by omega)
    show (pq_en x i (pq_em x s)).1 = _
    rw [ih _ (by omega)]
    omega
theorem pr_en255 : ∀ i (s : Nat × (Nat → Int32)), s.1 + i ≤ 64 → pr_v (pq_en 255 i s).2 (pq_en 255 i s).1 + 1 = (pr_v s.2 s.1 + 1) * 256 ^ i := by
  intro i
  induction i with
  | zero => intro s _; show pr_v s.2 s.1 + 1 = (pr_v s.2 s.1 + 1) * 1; omega
  | succ i ih =>
    intro s h
    have ⟨a, b⟩ := pr_em (x := 255) (s := s) (by omega) (by omega)
    show pr_v (pq_en 255 i (pq_em 255 s)).2 (pq_en 255 i (pq_em 255 s)).1 + 1 = _
    rw [ih _ (by omega), b, Nat.pow_succ, Nat.mul_comm (256 ^ i) 256, ← Nat.mul_assoc]
    congr 1
    omega
theorem pr_en0 : ∀ i (s : Nat × (Nat → Int32)), s.1 + i ≤ 64 → pr_v (pq_en 0 i s).2 (pq_en 0 i s).1 = pr_v s.2 s.1 * 256 ^ i := by
  intro i
  induction i with
  | zero => intro s _; show pr_v s.2 s.1 = pr_v s.2 s.1 * 1; omega
  | succ i ih =>
    intro s h
    have ⟨a, b⟩ := pr_em (x := 0) (s := s) (by omega) (by omega)
    show pr_v (pq_en 0 i (pq_em 0 s)).2 (pq_en 0 i (pq_em 0 s)).1 = _
    rw [ih _ (by omega), b, Nat.pow_succ, Nat.mul_comm (256 ^ i) 256, ← Nat.mul_assoc]
    congr 1
/-- the value of all that was coded, plus 2^32 -/
def pr_Z (e : pq_E) : Nat := (pr_v e.2.2.2.2.2 e.2.2.2.2.1 * 256 + e.2.2.1 + 1) * 256 ^ (e.2.2.2.1 - 1) * 4294967296 + e.1
/-- room for a carry, up to r above low -/
def pr_C (r : Nat) (e : pq_E) : Prop := 1 ≤ e.2.2.2.1 ∧ e.2.2.1 < 256 ∧ (e.2.2.1 + 1) * 256 ^ (e.2.2.2.1 - 1) * 4294967296 + e.1 + r ≤ 256 * 256 ^ (e.2.2.2.1 - 1) * 4294967296 + 4294967296 ∧ e.1 + r ≤ 8589934592 ∧ 1 ≤ r
def pr_N (e : pq_E) : Nat := e.2.2.2.2.1 + e.2.2.2.1
theorem pr_low {low : Nat} (h : low < 8589934592) : low = low / 4294967296 * 4294967296 + low / 16777216 % 256 * 16777216 + low % 16777216 ∧ low / 4294967296 ≤ 1 ∧ low / 16777216 % 256 < 256 ∧ low % 16777216 < 16777216 := by omega
theorem pr_sh {r : Nat} {e : pq_E} (h : pr_C r e) (hn : pr_N e ≤ 64) : pr_Z (pq_sh e) + 1095216660480 = pr_Z e * 256 ∧ pr_N (pq_sh e) = pr_N e + 1 := by
  obtain ⟨lo, rg, ca, pe, le, pk⟩ := e
  obtain ⟨h1, h2, h3, h4, h5⟩ := h
  dsimp only at h1 h2 h3 h4
  have hn2 : le + pe ≤ 64 := hn
  have hl := pr_low (low := lo) (by omega)
  by_cases c : lo < 4278190080 ∨ 4294967296 ≤ lo
  · have e1 : pq_sh (lo, rg, ca, pe, le, pk) = (lo % 16777216 * 256, rg, lo / 16777216 % 256, 1, pq_en ((255 + lo / 4294967296) % 256) (pe - 1) (pq_em ((ca + lo / 4294967296) % 256) (le, pk))) := if_pos c
    rw [e1]
    by_cases d : lo < 4294967296
    · have c0 : lo / 4294967296 = 0 := by omega
      have c1 : (255 + lo / 4294967296) % 256 = 255 := by omega
      have c2 : (ca + lo / 4294967296) % 256 = ca := by omega
      rw [c1, c2]
      have ⟨a1, a2⟩ := pr_em (x := ca) (s := (le, pk)) h2 (by show le < 64; omega)
      have a1' : (pq_em ca (le, pk)).1 = le + 1 := a1
      have b := pr_en255 (pe - 1) (pq_em ca (le, pk)) (by omega)
      have b1 := pr_en1 (x := 255) (by omega) (pe - 1) (pq_em ca (le, pk)) (by omega)
      rw [a2] at b
      have b' : pr_v (pq_en 255 (pe - 1) (pq_em ca (le, pk))).2 (pq_en 255 (pe - 1) (pq_em ca (le, pk))).1 + 1 = (pr_v pk le * 256 + ca + 1) * 256 ^ (pe - 1) := b
      refine ⟨?_, ?_⟩
      · show (pr_v (pq_en 255 (pe - 1) (pq_em ca (le, pk))).2 (pq_en 255 (pe - 1) (pq_em ca (le, pk))).1 * 256 + lo / 16777216 % 256 + 1) * 1 * 4294967296 + lo % 16777216 * 256 + 1095216660480 = ((pr_v pk le * 256 + ca + 1) * 256 ^ (pe - 1) * 4294967296 + lo) * 256
        rw [← b']
        generalize pr_v (pq_en 255 (pe - 1) (pq_em ca (le, pk))).2 (pq_en 255 (pe - 1) (pq_em ca (le, pk))).1 = v
        omega
      · show (pq_en 255 (pe - 1) (pq_em ca (le, pk))).1 + 1 = le + pe + 1
        rw [b1, a1']
        omega
    · have c0 : lo / 4294967296 = 1 := by omega
      have hc : ca + 1 < 256 := by
        by_cases z : 256 ≤ ca + 1
        · have m := Nat.mul_le_mul_right (256 ^ (pe - 1)) z
          omega
        · omega
      have c1 : (255 + lo / 4294967296) % 256 = 0 := by omega
      have c2 : (ca + lo / 4294967296) % 256 = ca + 1 := by omega
      rw [c1, c2]
      have ⟨a1, a2⟩ := pr_em (x := ca + 1) (s := (le, pk)) hc (by show le < 64; omega)
      have a1' : (pq_em (ca + 1) (le, pk)).1 = le + 1 := a1
      have b := pr_en0 (pe - 1) (pq_em (ca + 1) (le, pk)) (by omega)
      have b1 := pr_en1 (x := 0) (by omega) (pe - 1) (pq_em (ca + 1) (le, pk)) (by omega)
      rw [a2] at b
      have b' : pr_v (pq_en 0 (pe - 1) (pq_em (ca + 1) (le, pk))).2 (pq_en 0 (pe - 1) (pq_em (ca + 1) (le, pk))).1 = (pr_v pk le * 256 + ca + 1) * 256 ^ (pe - 1) := b
      refine ⟨?_, ?_⟩
      · show (pr_v (pq_en 0 (pe - 1) (pq_em (ca + 1) (le, pk))).2 (pq_en 0 (pe - 1) (pq_em (ca + 1) (le, pk))).1 * 256 + lo / 16777216 % 256 + 1) * 1 * 4294967296 + lo % 16777216 * 256 + 1095216660480 = ((pr_v pk le * 256 + ca + 1) * 256 ^ (pe - 1) * 4294967296 + lo) * 256
        rw [← b']
        generalize pr_v (pq_en 0 (pe - 1) (pq_em (ca + 1) (le, pk))).2 (pq_en 0 (pe - 1) (pq_em (ca + 1) (le, pk))).1 = v
        omega
      · show (pq_en 0 (pe - 1) (pq_em (ca + 1) (le, pk))).1 + 1 = le + pe + 1
        rw [b1, a1']
        omega
  · have e1 : pq_sh (lo, rg, ca, pe, le, pk) = (lo % 16777216 * 256, rg, ca, pe + 1, le, pk) := if_neg c
    rw [e1]
    refine ⟨?_, by show le + (pe + 1) = le + pe + 1; omega⟩
    have p : 256 ^ (pe + 1 - 1) = 256 ^ (pe - 1) * 256 := by
      rw [← Nat.pow_succ]
      congr 1
      omega
    show (pr_v pk le * 256 + ca + 1) * 256 ^ (pe + 1 - 1) * 4294967296 + lo % 16777216 * 256 + 1095216660480 = ((pr_v pk le * 256 + ca + 1) * 256 ^ (pe - 1) * 4294967296 + lo) * 256
    rw [p, ← Nat.mul_assoc]
    generalize (pr_v pk le * 256 + ca + 1) * 256 ^ (pe - 1) = T
    omega
theorem pr_C_le {r s : Nat} {e : pq_E} (h : pr_C r e) (hs : s ≤ r) (h1 : 1 ≤ s) : pr_C s e := by
  obtain ⟨a, b, c, d, _⟩ := h
  exact ⟨a, b, by omega, by omega, h1⟩
theorem pr_k0 {D R r s : Nat} (k : D + R + r ≤ 4294967296) (hs : s ≤ r * 256) : D * 256 + R * 256 + s ≤ 1099511627776 := by
  have h : (D + R + r) * 256 ≤ 4294967296 * 256 := Nat.mul_le_mul_right 256 k
  rw [Nat.add_mul, Nat.add_mul] at h
  exact Nat.le_trans (Nat.add_le_add_left hs _) h
theorem pr_m (T : Nat) : T * 4294967296 = T * 16777216 * 256 := by rw [Nat.mul_assoc]
theorem pr_k4 {A B s : Nat} (h : A + B + s ≤ 1099511627776) : A + 4294967296 + B + s ≤ 1103806595072 := by omega
theorem pr_k5 {A B R r s : Nat} (h : A + (4278190080 + R) + r ≤ B + 4294967296) (hs : s ≤ r * 256) : A * 256 + R * 256 + s ≤ B * 256 + 4294967296 := by
  have h2 : A + R + r ≤ B + 16777216 := by omega
  have h3 : (A + R + r) * 256 ≤ (B + 16777216) * 256 := Nat.mul_le_mul_right 256 h2
  rw [Nat.add_mul, Nat.add_mul, Nat.add_mul] at h3
  exact Nat.le_trans (Nat.add_le_add_left hs _) h3
theorem pr_k1 {lo r s T R C : Nat} (l : lo = C * 4294967296 + T * 16777216 + R) (hC : C ≤ 1) (hT : T < 256) (hR : R < 16777216) (hr : r < 16777216) (h4 : lo + r ≤ 8589934592) (c : lo < 4278190080 ∨ 4294967296 ≤ lo) (hs : s ≤ r * 256) : (T + 1) * 4294967296 + R * 256 + s ≤ 1103806595072 := by
  have k : T * 16777216 + R + r ≤ 4294967296 := by
    have c2 : C = 0 ∨ C = 1 := by omega
    cases c2 with
    | inl z => subst z; omega
    | inr z => subst z; omega
  have h := pr_k0 k hs
  rw [← pr_m] at h
  rw [Nat.add_mul, Nat.one_mul]
  exact pr_k4 h
theorem pr_k2 {lo r s T R P : Nat} (h : T * 4294967296 + lo + r ≤ P * 4294967296 + 4294967296) (l : lo = 4278190080 + R) (hs : s ≤ r * 256) : T * 256 * 4294967296 + R * 256 + s ≤ P * 256 * 4294967296 + 4294967296 := by
  rw [Nat.mul_right_comm T, Nat.mul_right_comm P]
  subst l
  exact pr_k5 h hs
theorem pr_k3 {lo : Nat} (h : ¬ (lo < 4278190080 ∨ 4294967296 ≤ lo)) : lo = 4278190080 + lo % 16777216 := by omega
/-- a shift keeps the room: behind a range below 2^24 times 256, or for one -/
theorem pr_C_sh {r s : Nat} {e : pq_E} (h : pr_C r e) (h1 : 1 ≤ s) (hs : s ≤ r * 256) (hr : r < 16777216) : pr_C s (pq_sh e) := by
  obtain ⟨lo, rg, ca, pe, le, pk⟩ := e
  obtain ⟨h1, h2, h3, h4, h5⟩ := h
  dsimp only at h1 h2 h3 h4
  have hl := pr_low (low := lo) (by omega)
  by_cases c : lo < 4278190080 ∨ 4294967296 ≤ lo
  · have e1 : pq_sh (lo, rg, ca, pe, le, pk) = (lo % 16777216 * 256, rg, lo / 16777216 % 256, 1, pq_en ((255 + lo / 4294967296) % 256) (pe - 1) (pq_em ((ca + lo / 4294967296) % 256) (le, pk))) := if_pos c
    rw [e1]
    refine ⟨Nat.le_refl _, by show lo / 16777216 % 256 < 256; omega, ?_, ?_, by assumption⟩
    · have k := pr_k1 hl.1 hl.2.1 hl.2.2.1 hl.2.2.2 hr h4 c hs
      show (lo / 16777216 % 256 + 1) * 256 ^ (1 - 1) * 4294967296 + lo % 16777216 * 256 + s ≤ 256 * 256 ^ (1 - 1) * 4294967296 + 4294967296
      rw [Nat.sub_self, Nat.pow_zero, Nat.mul_one]
      exact k
    · show lo % 16777216 * 256 + s ≤ 8589934592
      omega
  · have e1 : pq_sh (lo, rg, ca, pe, le, pk) = (lo % 16777216 * 256, rg, ca, pe + 1, le, pk) := if_neg c
    rw [e1]
    have p : 256 ^ (pe + 1 - 1) = 256 ^ (pe - 1) * 256 := by
      rw [← Nat.pow_succ]
      congr 1
      omega
    refine ⟨by show 1 ≤ pe + 1; omega, h2, ?_, ?_, by assumption⟩
    · show (ca + 1) * 256 ^ (pe + 1 - 1) * 4294967296 + lo % 16777216 * 256 + s ≤ 256 * 256 ^ (pe + 1 - 1) * 4294967296 + 4294967296
      rw [p, ← Nat.mul_assoc, ← Nat.mul_assoc 256]
      exact pr_k2 h3 (pr_k3 c) hs
    · show lo % 16777216 * 256 + s ≤ 8589934592
      omega
def pr_U (e : pq_E) : Nat := pr_Z e - 4294967296
theorem pr_ZU (e : pq_E) : pr_Z e = pr_U e + 4294967296 := by
  have h : 4294967296 ≤ pr_Z e := by
    have p : 1 ≤ (pr_v e.2.2.2.2.2 e.2.2.2.2.1 * 256 + e.2.2.1 + 1) * 256 ^ (e.2.2.2.1 - 1) := Nat.mul_pos (by omega) (Nat.pow_pos (by decide))
    show 4294967296 ≤ (pr_v e.2.2.2.2.2 e.2.2.2.2.1 * 256 + e.2.2.1 + 1) * 256 ^ (e.2.2.2.1 - 1) * 4294967296 + e.1
    omega
  unfold pr_U
  omega
theorem pr_U_sh {r : Nat} {e : pq_E} (h : pr_C r e) (hn : pr_N e ≤ 64) : pr_U (pq_sh e) = pr_U e * 256 ∧ pr_N (pq_sh e) = pr_N e + 1 := by
  have ⟨a, b⟩ := pr_sh h hn
  have z1 := pr_ZU e
  have z2 := pr_ZU (pq_sh e)
  exact ⟨by omega, b⟩
theorem pr_U_s1 {r : Nat} {e : pq_E} (h : pr_C r e) (hn : pr_N e ≤ 64) : pr_U (pq_s1 e) = pr_U e * 256 ∧ pr_N (pq_s1 e) = pr_N e + 1 :=
  pr_U_sh (e := (e.1, e.2.1 * 256, e.2.2)) (r := r) h hn
theorem pr_U_c0 (e : pq_E) (s z t : Nat) : pr_U (pq_c0 e s z t) = pr_U e + e.2.1 / t * s ∧ pr_N (pq_c0 e s z t) = pr_N e := by
  have z1 := pr_ZU e
  have z2 := pr_ZU (pq_c0 e s z t)
  have z3 : pr_Z (pq_c0 e s z t) = pr_Z e + e.2.1 / t * s := by
    unfold pr_Z pq_c0
    dsimp only
    exact (Nat.add_assoc _ _ _).symm
  exact ⟨by omega, rfl⟩
def pr_J (F Nf : Nat) (e : pq_E) : Prop := ∃ g, pr_N e + g = Nf ∧ pr_U e * 256 ^ g ≤ F ∧ F < (pr_U e + e.2.1) * 256 ^ g
theorem pr_J_s1 {F Nf : Nat} {e : pq_E} (hC : pr_C e.2.1 e) (hn : pr_N e ≤ 64) (h : pr_J F Nf (pq_s1 e)) : pr_J F Nf e ∧ pr_N e < Nf := by
  obtain ⟨g, h1, h2, h3⟩ := h
  have ⟨a, b⟩ := pr_U_s1 hC hn
  rw [a] at h2 h3
  rw [pq_s1_2, ← Nat.add_mul, Nat.mul_assoc, ← Nat.pow_succ'] at h3
  rw [Nat.mul_assoc, ← Nat.pow_succ'] at h2
  exact ⟨⟨g + 1, by omega, h2, h3⟩, by omega⟩
theorem pr_J_c0 {F Nf : Nat} {e : pq_E} {s z t : Nat} (ht : s + z ≤ t) (h : pr_J F Nf (pq_c0 e s z t)) : pr_J F Nf e := by
  obtain ⟨g, h1, h2, h3⟩ := h
  have ⟨a, b⟩ := pr_U_c0 e s z t
  rw [a] at h2 h3
  rw [b] at h1
  have m : e.2.1 / t * (s + z) ≤ e.2.1 / t * t := Nat.mul_le_mul_left _ ht
  have d : e.2.1 / t * t ≤ e.2.1 := Nat.div_mul_le_self _ _
  rw [Nat.mul_add] at m
  refine ⟨g, h1, Nat.le_trans (Nat.mul_le_mul_right _ (Nat.le_add_right _ _)) h2, Nat.lt_of_lt_of_le h3 (Nat.mul_le_mul_right _ ?_)⟩
  show pr_U e + e.2.1 / t * s + e.2.1 / t * z ≤ pr_U e + e.2.1
  omega
theorem pr_v_div {pk : Nat → Int32} (hB : pq_B pk) (n : Nat) : ∀ g, n + g ≤ 64 → pr_v pk (n + g) / 256 ^ g = pr_v pk n := by
  intro g
  induction g with
  | zero => intro _; show pr_v pk n / 1 = _; exact Nat.div_one _
  | succ g ih =>
    intro h
    obtain ⟨b, hb, e⟩ := hB (n + g) (by omega)
    have e2 : pr_v pk (n + (g + 1)) = pr_v pk (n + g) * 256 + b := by
      show pr_v pk (n + g) * 256 + (pk (n + g)).toNatClampNeg = _
      rw [e, nI_clamp (by omega)]
    rw [e2, Nat.pow_succ', ← Nat.div_div_eq_div_mul, show (pr_v pk (n + g) * 256 + b) / 256 = pr_v pk (n + g) by omega]
    exact ih (by omega)
theorem pr_J_q {pk : Nat → Int32} (hB : pq_B pk) {F Nf : Nat} {e : pq_E} (hF : F = pr_v pk (Nf + 4)) (hN : Nf + 4 ≤ 64) (h : pr_J F Nf e) : pr_U e ≤ pr_v pk (pr_N e + 4) ∧ pr_v pk (pr_N e + 4) < pr_U e + e.2.1 := by
  obtain ⟨g, h1, h2, h3⟩ := h
  have d := pr_v_div hB (pr_N e + 4) g (by omega)
  have e1 : pr_N e + 4 + g = Nf + 4 := by omega
  rw [e1, ← hF] at d
  rw [← d]
  have p : 0 < 256 ^ g := Nat.pow_pos (by decide)
  exact ⟨(Nat.le_div_iff_mul_le p).mpr h2, (Nat.div_lt_iff_lt_mul p).mpr h3⟩
/-- the decoder stands where the encoder stood -/
def pr_R (pk : Nat → Int32) (e : pq_E) (d : pq_D) : Prop := d.1 = pr_N e + 4 ∧ d.2.1 = e.2.1 ∧ d.2.2 + pr_U e = pr_v pk (pr_N e + 4)
theorem pr_R_s1 {pk : Nat → Int32} (hB : pq_B pk) {F Nf le : Nat} {e : pq_E} {d : pq_D} (hF : F = pr_v pk (Nf + 4)) (hN : Nf + 4 ≤ le) (hl : le ≤ 64) (hC : pr_C e.2.1 e) (hn : pr_N e ≤ 64) (hr : e.2.1 < 16777216)
    (hJ : pr_J F Nf (pq_s1 e)) (h : pr_R pk e d) : pr_R pk (pq_s1 e) (pq_t1 pk le d) := by
  obtain ⟨h1, h2, h3⟩ := h
  have ⟨a, b⟩ := pr_U_s1 hC hn
  have ⟨j1, j2⟩ := pr_J_s1 hC hn hJ
  have ⟨q1, q2⟩ := pr_J_q hB hF (by omega) j1
  have ⟨y1, y2⟩ := pq_by_e (p := d.1) hB hl (by omega)
  have e2 : pr_v pk (pr_N e + 4 + 1) = pr_v pk (pr_N e + 4) * 256 + pq_by pk le d.1 := by
    have y3 : (pk d.1).toNatClampNeg = pq_by pk le d.1 := by rw [y1, nI_clamp (by omega)]
    show pr_v pk (pr_N e + 4) * 256 + (pk (pr_N e + 4)).toNatClampNeg = _
    rw [← h1, y3]
  refine ⟨?_, ?_, ?_⟩
  · show d.1 + 1 = _
    omega
  · rw [pq_s1_2, ← h2]
    rfl
  · show (d.2.2 * 256 + pq_by pk le d.1) % 4294967296 + _ = _
    rw [a, b, show pr_N e + 1 + 4 = pr_N e + 4 + 1 by omega, e2, Nat.mod_eq_of_lt (by omega)]
    omega
def pr_I (B : Nat) (e : pq_E) : Prop := pq_EI B e ∧ pr_C e.2.1 e ∧ pr_N e ≤ B
theorem pr_C_s1 {e : pq_E} (h : pr_C e.2.1 e) (hr : e.2.1 < 16777216) : pr_C (pq_s1 e).2.1 (pq_s1 e) := by
  rw [pq_s1_2]
  have h1 : 1 ≤ e.2.1 := h.2.2.2.2
  exact pr_C_sh (e := (e.1, e.2.1 * 256, e.2.2)) (r := e.2.1) h (by omega) (Nat.le_refl _) hr
theorem pr_rn {B : Nat} {e : pq_E} (hC : pr_C e.2.1 e) (hn : pr_N e ≤ B) (hB : B + 2 ≤ 64) : pr_C (pq_rn e).2.1 (pq_rn e) ∧ pr_N (pq_rn e) ≤ B + 2 := by
  unfold pq_rn
  by_cases c : e.2.1 < 16777216
  · rw [if_pos c]
    have c1 := pr_C_s1 hC c
    have ⟨_, n1⟩ := pr_U_s1 hC (by omega)
    by_cases d : (pq_s1 e).2.1 < 16777216
    · rw [if_pos d]
      have ⟨_, n2⟩ := pr_U_s1 c1 (by omega)
      exact ⟨pr_C_s1 c1 d, by omega⟩
    · rw [if_neg d]; exact ⟨c1, by omega⟩
  · rw [if_neg c]; exact ⟨hC, by omega⟩
theorem pr_rn_J {F Nf B : Nat} {e : pq_E} (hC : pr_C e.2.1 e) (hn : pr_N e ≤ B) (hB : B + 2 ≤ 64) (h : pr_J F Nf (pq_rn e)) : pr_J F Nf e := by
  unfold pq_rn at h
  by_cases c : e.2.1 < 16777216
  · rw [if_pos c] at h
    have c1 := pr_C_s1 hC c
    have ⟨_, n1⟩ := pr_U_s1 hC (by omega)
    by_cases d : (pq_s1 e).2.1 < 16777216
    · rw [if_pos d] at h
      exact (pr_J_s1 hC (by omega) (pr_J_s1 c1 (by omega) h).1).1
    · rw [if_neg d] at h
      exact (pr_J_s1 hC (by omega) h).1
  · rw [if_neg c] at h; exact h
theorem pr_rn_R {pk : Nat → Int32} (hB : pq_B pk) {F Nf le B : Nat} {e : pq_E} {d : pq_D} (hF : F = pr_v pk (Nf + 4)) (hN : Nf + 4 ≤ le) (hl : le ≤ 64) (hC : pr_C e.2.1 e) (hn : pr_N e ≤ B) (hb : B + 2 ≤ 64)
    (hJ : pr_J F Nf (pq_rn e)) (h : pr_R pk e d) : pr_R pk (pq_rn e) (pq_dn pk le d) := by
  have hr : d.2.1 = e.2.1 := h.2.1
  unfold pq_rn at *
  unfold pq_dn
  by_cases c : e.2.1 < 16777216
  · rw [if_pos c] at hJ ⊢
    rw [if_pos (show d.2.1 < 16777216 by omega)]
    have c1 := pr_C_s1 hC c
    have ⟨_, n1⟩ := pr_U_s1 hC (by omega)
    have t1 : (pq_t1 pk le d).2.1 = (pq_s1 e).2.1 := by rw [pq_s1_2, ← hr]; rfl
    by_cases z : (pq_s1 e).2.1 < 16777216
    · rw [if_pos z] at hJ ⊢
      rw [if_pos (show (pq_t1 pk le d).2.1 < 16777216 by omega)]
      have j1 := (pr_J_s1 c1 (by omega) hJ).1
      have r1 := pr_R_s1 hB hF hN hl hC (by omega) c j1 h
      exact pr_R_s1 hB hF hN hl c1 (by omega) z hJ r1
    · rw [if_neg z] at hJ ⊢
      rw [if_neg (show ¬ (pq_t1 pk le d).2.1 < 16777216 by omega)]
      exact pr_R_s1 hB hF hN hl hC (by omega) c hJ h
  · rw [if_neg c] at hJ ⊢
    rw [if_neg (show ¬ d.2.1 < 16777216 by omega)]
    exact h
theorem pr_C_c0 {B : Nat} {e : pq_E} {s z t : Nat} (hE : pq_EI B e) (hC : pr_C e.2.1 e) (h0 : 1 ≤ t) (h1 : t ≤ 65536) (h2 : 1 ≤ z) (h3 : s + z ≤ t) : pr_C (pq_c0 e s z t).2.1 (pq_c0 e s z t) := by
  obtain ⟨a, b, c, d, _⟩ := hC
  have ⟨x1, x2, _⟩ := pq_c0_s hE h0 h1 h2 h3
  have m : e.2.1 / t * (s + z) ≤ e.2.1 / t * t := Nat.mul_le_mul_left _ h3
  have d2 : e.2.1 / t * t ≤ e.2.1 := Nat.div_mul_le_self _ _
  rw [Nat.mul_add] at m
  refine ⟨a, b, ?_, x1, by omega⟩
  show (e.2.2.1 + 1) * 256 ^ (e.2.2.2.1 - 1) * 4294967296 + (e.1 + e.2.1 / t * s) + e.2.1 / t * z ≤ 256 * 256 ^ (e.2.2.2.1 - 1) * 4294967296 + 4294967296
  omega
theorem pr_cd {B : Nat} {e : pq_E} {s z t : Nat} (h : pr_I B e) (h0 : 1 ≤ t) (h1 : t ≤ 65536) (h2 : 1 ≤ z) (h3 : s + z ≤ t) (hB : B + 2 ≤ 64) : pr_I (B + 2) (pq_cd e s z t) := by
  obtain ⟨a, b, c⟩ := h
  have cc := pr_C_c0 a b h0 h1 h2 h3
  have ⟨d1, d2⟩ := pr_rn cc (B := B) (by rw [(pr_U_c0 e s z t).2]; exact c) hB
  exact ⟨pq_cd_s a h0 h1 h2 h3, d1, d2⟩
theorem pr_cd_J {F Nf B : Nat} {e : pq_E} {s z t : Nat} (h : pr_I B e) (h0 : 1 ≤ t) (h1 : t ≤ 65536) (h2 : 1 ≤ z) (h3 : s + z ≤ t) (hB : B + 2 ≤ 64) (hJ : pr_J F Nf (pq_cd e s z t)) : pr_J F Nf (pq_c0 e s z t) := by
  obtain ⟨a, b, c⟩ := h
  exact pr_rn_J (B := B) (pr_C_c0 a b h0 h1 h2 h3) (by rw [(pr_U_c0 e s z t).2]; exact c) hB hJ
/-- one symbol -/
theorem pr_step {pk : Nat → Int32} (hB : pq_B pk) {F Nf le B : Nat} {e : pq_E} {d : pq_D} {s z t : Nat} (hF : F = pr_v pk (Nf + 4)) (hN : Nf + 4 ≤ le) (hl : le ≤ 64) (h : pr_I B e) (h0 : 1 ≤ t) (h1 : t ≤ 65536) (h2 : 1 ≤ z) (h3 : s + z ≤ t) (hb : B + 2 ≤ 64)
    (hJ : pr_J F Nf (pq_cd e s z t)) (hR : pr_R pk e d) : s ≤ pq_dv d t ∧ pq_dv d t < s + z ∧ pr_R pk (pq_cd e s z t) (pq_dc pk le d t s z) := by
  have j0 := pr_cd_J h h0 h1 h2 h3 hb hJ
  have ⟨u, n⟩ := pr_U_c0 e s z t
  have ⟨q1, q2⟩ := pr_J_q hB hF (by omega) j0
  rw [u, n] at q1 q2
  obtain ⟨r1, r2, r3⟩ := hR
  obtain ⟨a, b, c⟩ := h
  have ⟨y1, y2⟩ := pq_r a.2.2.1 h0 h1
  have q2' : pr_v pk (pr_N e + 4) < pr_U e + e.2.1 / t * s + e.2.1 / t * z := q2
  have k1 : d.2.1 / t * s ≤ d.2.2 := by rw [r2]; omega
  have k2 : d.2.2 < d.2.1 / t * (s + z) := by rw [r2, Nat.mul_add]; omega
  have rp : 0 < d.2.1 / t := by rw [r2]; omega
  have v1 : s ≤ d.2.2 / (d.2.1 / t) := (Nat.le_div_iff_mul_le rp).mpr (by rw [Nat.mul_comm]; exact k1)
  have v2 : d.2.2 / (d.2.1 / t) < s + z := (Nat.div_lt_iff_lt_mul rp).mpr (by rw [Nat.mul_comm]; exact k2)
  have v : pq_dv d t = d.2.2 / (d.2.1 / t) := if_neg (by omega)
  refine ⟨by omega, by omega, ?_⟩
  refine pr_rn_R hB (B := B) hF hN hl (pr_C_c0 a b h0 h1 h2 h3) (by rw [n]; exact c) hb hJ ?_
  refine ⟨by rw [n]; exact r1, ?_, ?_⟩
  · show d.2.1 / t * z = e.2.1 / t * z
    rw [r2]
  · rw [u, n]
    show d.2.2 - d.2.1 / t * s + (pr_U e + e.2.1 / t * s) = _
    rw [r2] at k1 ⊢
    omega
/-! an index taken apart gives the cells -/
theorem pr_W_lt {n k m m' r : Nat} (h1 : pq_W n k m ≤ r) (h2 : r < pq_W n k (m' + 1)) : m ≤ m' := by
  by_cases c : m' + 1 ≤ m
  · have := pq_W_mono n k c; omega
  · omega
theorem pr_un {a : Nat → Int32} {i n k : Nat} (hn : n < 8) (hk : k ≤ 16) (h : pq_M a i (n + 1) = k) :
    pq_fm n k (pq_ix a i (n + 1) k) = pq_mg (a i) ∧ pq_uy n k (pq_ix a i (n + 1) k) = a i ∧ pq_ur n k (pq_ix a i (n + 1) k) = pq_ix a (i + 1) n (k - pq_mg (a i)) := by
  have h2 : pq_mg (a i) + pq_M a (i + 1) n = k := h
  have h3 := pq_ix_lt a n (i + 1) (k - pq_mg (a i)) (by omega) (by omega) (by omega)
  have h4 := pq_ix_lt a (n + 1) i k (by omega) hk h
  have h6 : pq_W n k (pq_mg (a i) + 1) = pq_W n k (pq_mg (a i)) + (if pq_mg (a i) = 0 then 1 else 2) * pq_V n (k - pq_mg (a i)) := rfl
  have e : pq_ix a i (n + 1) k = pq_W n k (pq_mg (a i)) + (if a i < 0 then pq_V n (k - pq_mg (a i)) else 0) + pq_ix a (i + 1) n (k - pq_mg (a i)) := rfl
  have ⟨f1, f2, f3⟩ := pq_fm_s hn hk h4
  have f : pq_fm n k (pq_ix a i (n + 1) k) = pq_mg (a i) := by
    apply Nat.le_antisymm
    · apply pr_W_lt f1
      by_cases c : a i < 0
      · have := pq_mg_1 c
        rw [if_pos c] at e
        rw [if_neg (by omega)] at h6
        omega
      · rw [if_neg c] at e
        by_cases z : pq_mg (a i) = 0
        · rw [if_pos z] at h6; omega
        · rw [if_neg z] at h6; omega
    · exact pr_W_lt (show pq_W n k (pq_mg (a i)) ≤ pq_ix a i (n + 1) k by omega) f2
  refine ⟨f, ?_⟩
  by_cases c : a i < 0
  · have g : pq_ng n k (pq_ix a i (n + 1) k) := by
      have := pq_mg_1 c
      rw [if_pos c] at e
      unfold pq_ng
      rw [f]
      omega
    rw [pq_uy_n g, pq_ur_n g, f]
    rw [if_pos c] at e
    exact ⟨by rw [← pq_mg_n c, Int32.neg_neg], by omega⟩
  · have g : ¬ pq_ng n k (pq_ix a i (n + 1) k) := by
      rw [if_neg c] at e
      unfold pq_ng
      rw [f]
      omega
    rw [pq_uy_p g, pq_ur_p g, f]
    rw [if_neg c] at e
    exact ⟨(pq_mg_p c).symm, by omega⟩
theorem pr_us {a : Nat → Int32} {n k : Nat} (hn : n ≤ 8) (hk : k ≤ 16) (h : pq_M a 0 n = k) : ∀ i, i ≤ n → pq_M a i (n - i) = (pq_us n k (pq_ix a 0 n k) i).1 ∧ (pq_us n k (pq_ix a 0 n k) i).1 ≤ 16 ∧ (pq_us n k (pq_ix a 0 n k) i).2 = pq_ix a i (n - i) (pq_us n k (pq_ix a 0 n k) i).1 := by
  intro i
  induction i with
  | zero => intro _; exact ⟨h, hk, rfl⟩
  | succ i ih =>
    intro hi
    have ⟨h1, h2, h3⟩ := ih (by omega)
    have e : n - i = (n - i - 1) + 1 := by omega
    rw [e] at h1 h3
    have ⟨u1, u2, u3⟩ := pr_un (n := n - i - 1) (by omega) h2 h1
    rw [← h3] at u1 u2 u3
    have e2 : n - (i + 1) = n - i - 1 := by omega
    rw [e2]
    have m : pq_mg (a i) + pq_M a (i + 1) (n - i - 1) = (pq_us n k (pq_ix a 0 n k) i).1 := h1
    have k1 : (pq_us n k (pq_ix a 0 n k) (i + 1)).1 = (pq_us n k (pq_ix a 0 n k) i).1 - pq_mg (a i) := by
      show (pq_us n k (pq_ix a 0 n k) i).1 - pq_fm (n - i - 1) (pq_us n k (pq_ix a 0 n k) i).1 (pq_us n k (pq_ix a 0 n k) i).2 = _
      rw [u1]
    have k2 : (pq_us n k (pq_ix a 0 n k) (i + 1)).2 = pq_ix a (i + 1) (n - i - 1) ((pq_us n k (pq_ix a 0 n k) i).1 - pq_mg (a i)) := u3
    rw [k2, k1]
    exact ⟨by omega, by omega, rfl⟩
theorem pr_y {a : Nat → Int32} {n k : Nat} (hn : n ≤ 8) (hk : k ≤ 16) (h : pq_M a 0 n = k) {i : Nat} (hi : i < n) : pq_y n k (pq_ix a 0 n k) i = a i := by
  have ⟨h1, h2, h3⟩ := pr_us hn hk h i (by omega)
  have e : n - i = (n - i - 1) + 1 := by omega
  rw [e] at h1 h3
  have ⟨_, u2, _⟩ := pr_un (n := n - i - 1) (by omega) h2 h1
  rw [← h3] at u2
  exact u2
theorem pr_sy {v s : Nat} (h : v < 150) (h1 : pq_st s ≤ v) (h2 : v < pq_st (s + 1)) : pq_sy v = s := by
  have ⟨a, b, _⟩ := pq_sy_s h
  apply Nat.le_antisymm
  · by_cases c : s + 1 ≤ pq_sy v
    · have : pq_st (s + 1) ≤ pq_st (pq_sy v) := pq_S_mono pq_f c
      omega
    · omega
  · by_cases c : pq_sy v + 1 ≤ s
    · have : pq_st (pq_sy v + 1) ≤ pq_st s := pq_S_mono pq_f c
      omega
    · omega
section PRB
variable {pk : Nat → Int32} {F Nf le B k idx : Nat} {e : pq_E} {d : pq_D}
theorem pr_cp (h : pr_I B e) (hk : k ≤ 16) (hi : idx < pq_V 8 k) (hb : B + 4 ≤ 64) : pr_I (B + 4) (pq_cp e k idx) ∧ (pr_J F Nf (pq_cp e k idx) → pr_J F Nf e) := by
  unfold pq_cp
  by_cases c : pq_V 8 k ≤ 65536
  · rw [if_pos c]
    have ⟨i1, i2, i3⟩ := pr_cd (s := idx) (z := 1) (t := pq_V 8 k) h (by omega) c (by omega) (by omega) (by omega)
    refine ⟨⟨pq_EI_le i1 (by omega), i2, by omega⟩, fun j => ?_⟩
    exact pr_J_c0 (by omega) (pr_cd_J h (by omega) c (by omega) (by omega) (by omega) j)
  · rw [if_neg c]
    have ⟨a1, a2, a3, _⟩ := pq_ap_s k (by omega) (by omega)
    have ⟨p1, p2⟩ := pq_ap_p _ a2
    have m : idx / 2 ^ pq_ap k ≤ (pq_V 8 k - 1) / 2 ^ pq_ap k := Nat.div_le_div_right (by omega)
    have r : idx % 2 ^ pq_ap k < 2 ^ pq_ap k := Nat.mod_lt _ p1
    have i1 := pr_cd (s := idx / 2 ^ pq_ap k) (z := 1) (t := (pq_V 8 k - 1) / 2 ^ pq_ap k + 1) h (Nat.succ_pos _) a3 (Nat.le_refl _) (Nat.succ_le_succ m) (by omega)
    have i2 := pr_cd (s := idx % 2 ^ pq_ap k) (z := 1) (t := 2 ^ pq_ap k) i1 p1 (Nat.le_trans p2 (by decide)) (Nat.le_refl _) r (by omega)
    refine ⟨i2, fun j => ?_⟩
    have j1 := pr_J_c0 r (pr_cd_J i1 p1 (Nat.le_trans p2 (by decide)) (Nat.le_refl _) r (by omega) j)
    exact pr_J_c0 (Nat.succ_le_succ m) (pr_cd_J h (Nat.succ_pos _) a3 (Nat.le_refl _) (Nat.succ_le_succ m) (by omega) j1)
theorem pr_dp (hB : pq_B pk) (hF : F = pr_v pk (Nf + 4)) (hN : Nf + 4 ≤ le) (hl : le ≤ 64) (h : pr_I B e) (hk : k ≤ 16) (hi : idx < pq_V 8 k) (hb : B + 4 ≤ 64) (hJ : pr_J F Nf (pq_cp e k idx)) (hR : pr_R pk e d) :
    (pq_dp pk le d k).1 = idx ∧ pr_R pk (pq_cp e k idx) (pq_dp pk le d k).2 := by
  unfold pq_cp at *
  unfold pq_dp
  by_cases c : pq_V 8 k ≤ 65536
  · rw [if_pos c] at hJ ⊢
    rw [if_pos c]
    have ⟨v1, v2, r1⟩ := pr_step hB hF hN hl h (by omega) c (by omega) (by omega) (by omega) hJ hR
    have v : pq_dv d (pq_V 8 k) = idx := by omega
    rw [v]
    exact ⟨rfl, r1⟩
  · rw [if_neg c] at hJ ⊢
    rw [if_neg c]
    have ⟨a1, a2, a3, _⟩ := pq_ap_s k (by omega) (by omega)
    have ⟨p1, p2⟩ := pq_ap_p _ a2
    have m : idx / 2 ^ pq_ap k ≤ (pq_V 8 k - 1) / 2 ^ pq_ap k := Nat.div_le_div_right (by omega)
    have r : idx % 2 ^ pq_ap k < 2 ^ pq_ap k := Nat.mod_lt _ p1
    have i1 := pr_cd (s := idx / 2 ^ pq_ap k) (z := 1) (t := (pq_V 8 k - 1) / 2 ^ pq_ap k + 1) h (Nat.succ_pos _) a3 (Nat.le_refl _) (Nat.succ_le_succ m) (by omega)
    have j1 := pr_J_c0 r (pr_cd_J i1 p1 (Nat.le_trans p2 (by decide)) (Nat.le_refl _) r (by omega) hJ)
    have ⟨v1, v2, r1⟩ := pr_step hB hF hN hl h (Nat.succ_pos _) a3 (Nat.le_refl _) (Nat.succ_le_succ m) (by omega) j1 hR
    have v : pq_dv d ((pq_V 8 k - 1) / 2 ^ pq_ap k + 1) = idx / 2 ^ pq_ap k := Nat.le_antisymm (Nat.le_of_lt_succ v2) v1
    rw [v]
    have ⟨w1, w2, r2⟩ := pr_step hB hF hN hl i1 p1 (Nat.le_trans p2 (by decide)) (Nat.le_refl _) r (by omega) hJ r1
    have w : pq_dv (pq_dc pk le d ((pq_V 8 k - 1) / 2 ^ pq_ap k + 1) (idx / 2 ^ pq_ap k) 1) (2 ^ pq_ap k) = idx % 2 ^ pq_ap k := Nat.le_antisymm (Nat.le_of_lt_succ w2) w1
    rw [w]
    have dm : idx / 2 ^ pq_ap k * 2 ^ pq_ap k + idx % 2 ^ pq_ap k = idx := Nat.div_add_mod' _ _
    refine ⟨?_, r2⟩
    show (if _ then _ else _) = _
    rw [dm, if_neg (by omega)]
end PRB
theorem pr_sh_l (e : pq_E) : (pq_sh e).1 = e.1 % 16777216 * 256 := by
  unfold pq_sh
  by_cases c : e.1 < 4278190080 ∨ 4294967296 ≤ e.1
  · rw [if_pos c]
  · rw [if_neg c]
/-- the five last shifts -/
theorem pr_fl {r : Nat} {e : pq_E} (h : pr_C r e) (hn : pr_N e + 5 ≤ 64) : pr_v (pq_fl 5 e).2.2.2.2.2 (pq_fl 5 e).2.2.2.2.1 = pr_U e ∧ (pq_fl 5 e).2.2.2.2.1 = pr_N e + 4 := by
  have c0 : pr_C 1 e := pr_C_le h h.2.2.2.2 (Nat.le_refl _)
  have c1 : pr_C 1 (pq_sh e) := pr_C_sh c0 (by omega) (by omega) (by omega)
  have c2 : pr_C 1 (pq_sh (pq_sh e)) := pr_C_sh c1 (by omega) (by omega) (by omega)
  have c3 : pr_C 1 (pq_sh (pq_sh (pq_sh e))) := pr_C_sh c2 (by omega) (by omega) (by omega)
  have c4 : pr_C 1 (pq_sh (pq_sh (pq_sh (pq_sh e)))) := pr_C_sh c3 (by omega) (by omega) (by omega)
  have ⟨u1, n1⟩ := pr_U_sh c0 (by omega)
  have ⟨u2, n2⟩ := pr_U_sh c1 (by omega)
  have ⟨u3, n3⟩ := pr_U_sh c2 (by omega)
  have ⟨u4, n4⟩ := pr_U_sh c3 (by omega)
  have ⟨u5, n5⟩ := pr_U_sh c4 (by omega)
  have l1 := pr_sh_l e
  have l2 := pr_sh_l (pq_sh e)
  have l3 := pr_sh_l (pq_sh (pq_sh e))
  have l4 := pr_sh_l (pq_sh (pq_sh (pq_sh e)))
  have z : (pq_sh (pq_sh (pq_sh (pq_sh e)))).1 = 0 := by omega
  show pr_v (pq_sh (pq_sh (pq_sh (pq_sh (pq_sh e))))).2.2.2.2.2 (pq_sh (pq_sh (pq_sh (pq_sh (pq_sh e))))).2.2.2.2.1 = pr_U e ∧ (pq_sh (pq_sh (pq_sh (pq_sh (pq_sh e))))).2.2.2.2.1 = pr_N e + 4
  generalize pq_sh (pq_sh (pq_sh (pq_sh e))) = e4 at *
  have e5 : pq_sh e4 = (e4.1 % 16777216 * 256, e4.2.1, e4.1 / 16777216 % 256, 1, pq_en ((255 + e4.1 / 4294967296) % 256) (e4.2.2.2.1 - 1) (pq_em ((e4.2.2.1 + e4.1 / 4294967296) % 256) (e4.2.2.2.2.1, e4.2.2.2.2.2))) := if_pos (Or.inl (by omega))
  have z5 := pr_ZU (pq_sh e4)
  have p1 : (pq_sh e4).1 = 0 := by rw [pr_sh_l, z]
  have p2 : (pq_sh e4).2.2.1 = 0 := by rw [e5, z]
  have p3 : (pq_sh e4).2.2.2.1 = 1 := by rw [e5]
  unfold pr_Z at z5
  unfold pr_N at n5
  rw [p1, p2, p3] at z5
  rw [p3] at n5
  have z6 : (pr_v (pq_sh e4).2.2.2.2.2 (pq_sh e4).2.2.2.2.1 * 256 + 0 + 1) * 1 * 4294967296 + 0 = pr_U (pq_sh e4) + 4294967296 := z5
  unfold pr_N at *
  exact ⟨by omega, by omega⟩
section PRF
variable {pk co pc eq : Nat → Int32}
theorem pr_eb (hp : pq_B pk) (hc : pq_HC co) (hk : pq_HK pc) (hq : pq_HQ eq) : ∀ b, b ≤ 4 → pr_I (1 + 6 * b) (pq_eb pk co pc eq b) := by
  intro b
  induction b with
  | zero =>
    intro _
    refine ⟨pq_eb_s hp hc hk hq 0 (by omega), ⟨(by decide : 1 ≤ 1), (by decide : 0 < 256), (by decide : (0 + 1) * 256 ^ (1 - 1) * 4294967296 + 0 + 4294967295 ≤ 256 * 256 ^ (1 - 1) * 4294967296 + 4294967296), (by decide : 0 + 4294967295 ≤ 8589934592), (by decide : 1 ≤ 4294967295)⟩, (by decide : 0 + 1 ≤ 1 + 6 * 0)⟩
  | succ b ih =>
    intro hb
    have i0 := ih (by omega)
    have h1 := pq_sb_le hc hq (b := b) (by omega)
    have ⟨a1, a2, _⟩ := pq_f_s _ h1
    have i1 : pr_I (1 + 6 * b + 2) (pq_ee co eq b (pq_eb pk co pc eq b)) := pr_cd i0 (by omega) (by omega) a2 a1 (by omega)
    have ⟨_, k2, _⟩ := pq_k_s hk (b := b) (by omega)
    have ⟨j1, _⟩ := pr_cp (F := 0) (Nf := 0) i1 k2 (pq_id_lt co hk (b := b) (by omega)) (by omega)
    exact j1
theorem pr_eb_J (hp : pq_B pk) (hc : pq_HC co) (hk : pq_HK pc) (hq : pq_HQ eq) {F Nf b : Nat} (hb : b < 4) (h : pr_J F Nf (pq_eb pk co pc eq (b + 1))) : pr_J F Nf (pq_ee co eq b (pq_eb pk co pc eq b)) ∧ pr_J F Nf (pq_eb pk co pc eq b) := by
  have i0 := pr_eb hp hc hk hq b (by omega)
  have h1 := pq_sb_le hc hq (b := b) (by omega)
  have ⟨a1, a2, _⟩ := pq_f_s _ h1
  have i1 : pr_I (1 + 6 * b + 2) (pq_ee co eq b (pq_eb pk co pc eq b)) := pr_cd i0 (by omega) (by omega) a2 a1 (by omega)
  have ⟨_, k2, _⟩ := pq_k_s hk (b := b) (by omega)
  have ⟨_, j2⟩ := pr_cp (F := F) (Nf := Nf) i1 k2 (pq_id_lt co hk (b := b) (by omega)) (by omega)
  have j3 := j2 h
  exact ⟨j3, pr_J_c0 a1 (pr_cd_J i0 (by omega) (by omega) a2 a1 (by omega) j3)⟩
theorem pr_eb_Ja (hp : pq_B pk) (hc : pq_HC co) (hk : pq_HK pc) (hq : pq_HQ eq) {F Nf : Nat} (h : pr_J F Nf (pq_eb pk co pc eq 4)) : ∀ j, j ≤ 4 → pr_J F Nf (pq_eb pk co pc eq (4 - j)) := by
  intro j
  induction j with
  | zero => intro _; exact h
  | succ j ih =>
    intro hj
    have h1 := ih (by omega)
    rw [show 4 - j = 4 - (j + 1) + 1 by omega] at h1
    exact (pr_eb_J hp hc hk hq (by omega) h1).2
theorem pr_v_mono {p : Nat → Int32} {a : Nat} : ∀ {b : Nat}, a ≤ b → pr_v p a ≤ pr_v p b := by
  intro b
  induction b with
  | zero => intro h; rw [Nat.le_zero.mp h]; exact Nat.le_refl _
  | succ b ih =>
    intro h
    by_cases e : a = b + 1
    · subst e; exact Nat.le_refl _
    · have h1 := ih (by omega)
      show pr_v p a ≤ pr_v p b * 256 + _
      omega
theorem pr_d5 {p : Nat → Int32} (hB : pq_B p) {le : Nat} (h5 : 5 ≤ le) (hl : le ≤ 64) (h : pr_v p 5 < 4294967296) : ∀ i, i ≤ 5 → (pq_d5 p le i).2.2 = pr_v p i := by
  intro i
  induction i with
  | zero => intro _; rfl
  | succ i ih =>
    intro hi
    have ⟨y1, y2⟩ := pq_by_e (p := i) hB hl (by omega)
    have m := pr_v_mono (p := p) hi
    have e2 : pr_v p (i + 1) = pr_v p i * 256 + pq_by p le i := by
      show pr_v p i * 256 + (p i).toNatClampNeg = _
      have y3 : (p i).toNatClampNeg = pq_by p le i := by rw [y1, nI_clamp (by omega)]
      rw [y3]
    show ((pq_d5 p le i).2.2 * 256 + pq_by p le (pq_d5 p le i).1) % 4294967296 = _
    rw [ih (by omega), (pq_d5_s p le i).1, ← e2, Nat.mod_eq_of_lt (by omega)]
theorem pr_trip (hp : pq_B pk) (hc : pq_HC co) (hk : pq_HK pc) (hq : pq_HQ eq) : ∀ b, b < 4 →
    pq_ds (pq_db (pq_fl 5 (pq_eb pk co pc eq 4)).2.2.2.2.2 (pq_fl 5 (pq_eb pk co pc eq 4)).2.2.2.2.1 pc b) = pq_sb co eq b ∧
    pq_xi (pq_fl 5 (pq_eb pk co pc eq 4)).2.2.2.2.2 (pq_fl 5 (pq_eb pk co pc eq 4)).2.2.2.2.1 pc b = pq_id co pc b := by
  have i4 := pr_eb hp hc hk hq 4 (by omega)
  have ⟨f1, f2⟩ := pr_fl i4.2.1 (by have := i4.2.2; omega)
  have wF := pq_fl_w 5 _ _ i4.1.1
  have hN4 := i4.2.2
  generalize hpF : (pq_fl 5 (pq_eb pk co pc eq 4)).2.2.2.2.2 = pF at *
  generalize hlF : (pq_fl 5 (pq_eb pk co pc eq 4)).2.2.2.2.1 = lF at *
  have hB : pq_B pF := by rw [← hpF]; exact wF.2.2.2
  have hl : lF ≤ 64 := by rw [← hlF]; exact wF.2.2.1
  generalize hNf : pr_N (pq_eb pk co pc eq 4) = Nf at *
  have hF : pr_U (pq_eb pk co pc eq 4) = pr_v pF (Nf + 4) := by rw [← f2]; exact f1.symm
  have J4 : pr_J (pr_U (pq_eb pk co pc eq 4)) Nf (pq_eb pk co pc eq 4) := by
    refine ⟨0, hNf, ?_, ?_⟩
    · show _ * 1 ≤ _; omega
    · show _ < _ * 1
      have := i4.1.2.2.1
      omega
  have Ja : ∀ b, b ≤ 4 → pr_J (pr_U (pq_eb pk co pc eq 4)) Nf (pq_eb pk co pc eq b) := by
    intro b hb
    have := pr_eb_Ja hp hc hk hq J4 (4 - b) (by omega)
    rw [show 4 - (4 - b) = b by omega] at this
    exact this
  have R : ∀ b, b ≤ 4 → pr_R pF (pq_eb pk co pc eq b) (pq_db pF lF pc b) ∧ (b < 4 → pq_ds (pq_db pF lF pc b) = pq_sb co eq b ∧ pq_xi pF lF pc b = pq_id co pc b) := by
    have step : ∀ b, b < 4 → pr_R pF (pq_eb pk co pc eq b) (pq_db pF lF pc b) → (pq_ds (pq_db pF lF pc b) = pq_sb co eq b ∧ pq_xi pF lF pc b = pq_id co pc b) ∧ pr_R pF (pq_eb pk co pc eq (b + 1)) (pq_db pF lF pc (b + 1)) := by
      intro b hb hR
      have i0 := pr_eb hp hc hk hq b (by omega)
      have h1 := pq_sb_le hc hq (b := b) (by omega)
      have ⟨a1, a2, _⟩ := pq_f_s _ h1
      have i1 : pr_I (1 + 6 * b + 2) (pq_ee co eq b (pq_eb pk co pc eq b)) := pr_cd i0 (by omega) (by omega) a2 a1 (by omega)
      have ⟨_, k2, _⟩ := pq_k_s hk (b := b) (by omega)
      have jb := Ja (b + 1) (by omega)
      have ⟨j1, _⟩ := pr_eb_J hp hc hk hq (by omega) jb
      have ⟨v1, v2, r1⟩ := pr_step hB hF (by omega) hl i0 (by omega) (by omega) a2 a1 (by omega) j1 hR
      have s1 : pq_ds (pq_db pF lF pc b) = pq_sb co eq b := pr_sy (pq_dv_lt (by decide)) v1 v2
      have r2 : pr_R pF (pq_ee co eq b (pq_eb pk co pc eq b)) (pq_de pF lF (pq_db pF lF pc b)) := by
        unfold pq_de
        rw [s1]
        exact r1
      have ⟨x1, x2⟩ := pr_dp hB hF (by omega) hl i1 k2 (pq_id_lt co hk (b := b) (by omega)) (by omega) jb r2
      exact ⟨⟨s1, x1⟩, x2⟩
    have R0 : pr_R pF (pq_eb pk co pc eq 0) (pq_db pF lF pc 0) := by
      have ⟨q1, q2⟩ := pr_J_q hB hF (by omega) (Ja 0 (by omega))
      have u0 : pr_U (pq_eb pk co pc eq 0) = 0 := by
        show (0 * 256 + 0 + 1) * 256 ^ (1 - 1) * 4294967296 + 0 - 4294967296 = 0
        decide
      have n0 : pr_N (pq_eb pk co pc eq 0) = 1 := rfl
      rw [n0, u0] at q2
      have q3 : pr_v pF 5 < 0 + 4294967295 := q2
      have ⟨d1, d2, _⟩ := pq_d5_s pF lF 5
      have N1 : 1 ≤ Nf := by
        obtain ⟨g, g1, _⟩ := Ja 0 (by omega)
        rw [n0] at g1
        omega
      refine ⟨by rw [n0]; exact d1, d2, ?_⟩
      rw [u0, n0]
      exact pr_d5 hB (by omega) hl (by omega) 5 (by omega)
    have all : ∀ b, b ≤ 4 → pr_R pF (pq_eb pk co pc eq b) (pq_db pF lF pc b) := by
      intro b
      induction b with
      | zero => intro _; exact R0
      | succ b ih => intro hb; exact (step b (by omega) (ih (by omega))).2
    intro b hb
    exact ⟨all b hb, fun h => (step b h (all b hb)).1⟩
  intro b hb
  exact (R b (by omega)).2 hb
end PRF
