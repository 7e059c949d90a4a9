/-! the range encoder: low, range, cache, pending, length, packet -/
abbrev pq_E : Type := Nat × Nat × Nat × Nat × Nat × (Nat → Int32)
def pq_em (x : Nat) (s : Nat × (Nat → Int32)) : Nat × (Nat → Int32) := if s.1 < 64 then (s.1 + 1, upd s.2 s.1 (nI x)) else s
def pq_en (x : Nat) : Nat → Nat × (Nat → Int32) → Nat × (Nat → Int32)
  | 0, s => s
  | i + 1, s => pq_en x i (pq_em x s)
def pq_B (pk : Nat → Int32) : Prop := ∀ i, i < 64 → ∃ b, b < 256 ∧ pk i = nI b
theorem pq_B_u {pk : Nat → Int32} (h : pq_B pk) {j b : Nat} (hb : b < 256) : pq_B (upd pk j (nI b)) := by
  intro i hi
  by_cases e : i = j
  · subst e; exact ⟨b, hb, pk_us⟩
  · obtain ⟨c, hc, e2⟩ := h i hi
    exact ⟨c, hc, by rw [pk_un e, e2]⟩
theorem pq_em_s {x : Nat} {s : Nat × (Nat → Int32)} (hx : x < 256) (h1 : s.1 ≤ 64) (h2 : pq_B s.2) : (pq_em x s).1 ≤ 64 ∧ pq_B (pq_em x s).2 := by
  unfold pq_em
  by_cases c : s.1 < 64
  · rw [if_pos c]; exact ⟨c, pq_B_u h2 hx⟩
  · rw [if_neg c]; exact ⟨h1, h2⟩
theorem pq_en_s {x : Nat} (hx : x < 256) : ∀ i (s : Nat × (Nat → Int32)), s.1 ≤ 64 → pq_B s.2 → (pq_en x i s).1 ≤ 64 ∧ pq_B (pq_en x i s).2 := by
  intro i
  induction i with
  | zero => intro s h1 h2; exact ⟨h1, h2⟩
  | succ i ih =>
    intro s h1 h2
    have ⟨a, b⟩ := pq_em_s hx h1 h2
    exact ih _ a b
def pq_sh (e : pq_E) : pq_E :=
  if e.1 < 4278190080 ∨ 4294967296 ≤ e.1 then
    (e.1 % 16777216 * 256, e.2.1, e.1 / 16777216 % 256, 1, pq_en ((255 + e.1 / 4294967296) % 256) (e.2.2.2.1 - 1) (pq_em ((e.2.2.1 + e.1 / 4294967296) % 256) (e.2.2.2.2.1, e.2.2.2.2.2)))
  else (e.1 % 16777216 * 256, e.2.1, e.2.2.1, e.2.2.2.1 + 1, e.2.2.2.2.1, e.2.2.2.2.2)
def pq_EW (B : Nat) (e : pq_E) : Prop := e.2.2.1 < 256 ∧ e.2.2.2.1 ≤ B ∧ e.2.2.2.2.1 ≤ 64 ∧ pq_B e.2.2.2.2.2
theorem pq_EW_le {B C : Nat} {e : pq_E} (h : pq_EW B e) (hb : B ≤ C) : pq_EW C e := ⟨h.1, Nat.le_trans h.2.1 hb, h.2.2⟩
theorem pq_sh_w {B : Nat} {e : pq_E} (h : pq_EW B e) : pq_EW (B + 1) (pq_sh e) := by
  obtain ⟨h1, h2, h3, h4⟩ := h
  unfold pq_sh
  by_cases c : e.1 < 4278190080 ∨ 4294967296 ≤ e.1
  · rw [if_pos c]
    have ⟨a, b⟩ := pq_em_s (x := (e.2.2.1 + e.1 / 4294967296) % 256) (s := (e.2.2.2.2.1, e.2.2.2.2.2)) (Nat.mod_lt _ (by decide)) h3 h4
    have ⟨a2, b2⟩ := pq_en_s (x := (255 + e.1 / 4294967296) % 256) (Nat.mod_lt _ (by decide)) (e.2.2.2.1 - 1) _ a b
    exact ⟨Nat.mod_lt _ (by decide), Nat.succ_le_succ (Nat.zero_le _), a2, b2⟩
  · rw [if_neg c]
    exact ⟨h1, Nat.succ_le_succ h2, h3, h4⟩
theorem pq_sh_1 (e : pq_E) : (pq_sh e).1 < 4294967296 := by
  have h : e.1 % 16777216 < 16777216 := Nat.mod_lt _ (by decide)
  unfold pq_sh
  by_cases c : e.1 < 4278190080 ∨ 4294967296 ≤ e.1
  · rw [if_pos c]; show e.1 % 16777216 * 256 < _; omega
  · rw [if_neg c]; show e.1 % 16777216 * 256 < _; omega
theorem pq_sh_2 (e : pq_E) : (pq_sh e).2.1 = e.2.1 := by
  unfold pq_sh
  by_cases c : e.1 < 4278190080 ∨ 4294967296 ≤ e.1
  · rw [if_pos c]
  · rw [if_neg c]
def pq_s1 (e : pq_E) : pq_E := pq_sh (e.1, e.2.1 * 256, e.2.2)
theorem pq_s1_2 (e : pq_E) : (pq_s1 e).2.1 = e.2.1 * 256 := pq_sh_2 _
theorem pq_s1_1 (e : pq_E) : (pq_s1 e).1 < 4294967296 := pq_sh_1 _
theorem pq_s1_w {B : Nat} {e : pq_E} (h : pq_EW B e) : pq_EW (B + 1) (pq_s1 e) := pq_sh_w (e := (e.1, e.2.1 * 256, e.2.2)) h
def pq_rn (e : pq_E) : pq_E := if e.2.1 < 16777216 then (if (pq_s1 e).2.1 < 16777216 then pq_s1 (pq_s1 e) else pq_s1 e) else e
def pq_EI (B : Nat) (e : pq_E) : Prop := pq_EW B e ∧ e.1 + e.2.1 ≤ 8589934592 ∧ 16777216 ≤ e.2.1 ∧ e.2.1 < 4294967296
theorem pq_EI_le {B C : Nat} {e : pq_E} (h : pq_EI B e) (hb : B ≤ C) : pq_EI C e := ⟨pq_EW_le h.1 hb, h.2⟩
theorem pq_rn_s {B : Nat} {e : pq_E} (h : pq_EW B e) (h1 : e.1 + e.2.1 ≤ 8589934592) (h2 : 256 ≤ e.2.1) (h3 : e.2.1 < 4294967296) : pq_EI (B + 2) (pq_rn e) := by
  unfold pq_rn
  have a1 := pq_s1_1 e
  have a2 := pq_s1_2 e
  have b1 := pq_s1_1 (pq_s1 e)
  have b2 := pq_s1_2 (pq_s1 e)
  have w1 := pq_s1_w h
  have w2 := pq_s1_w w1
  by_cases c : e.2.1 < 16777216
  · rw [if_pos c]
    by_cases d : (pq_s1 e).2.1 < 16777216
    · rw [if_pos d]; exact ⟨w2, by omega, by omega, by omega⟩
    · rw [if_neg d]; exact ⟨pq_EW_le w1 (by omega), by omega, by omega, by omega⟩
  · rw [if_neg c]; exact ⟨pq_EW_le h (by omega), h1, by omega, h3⟩
def pq_c0 (e : pq_E) (start size total : Nat) : pq_E := (e.1 + e.2.1 / total * start, e.2.1 / total * size, e.2.2)
def pq_cd (e : pq_E) (start size total : Nat) : pq_E := pq_rn (pq_c0 e start size total)
theorem pq_r {rng total : Nat} (h : 16777216 ≤ rng) (h0 : 1 ≤ total) (h1 : total ≤ 65536) : 256 ≤ rng / total ∧ rng / total * total ≤ rng := by
  refine ⟨?_, Nat.div_mul_le_self _ _⟩
  rw [Nat.le_div_iff_mul_le (by omega)]
  omega
theorem pq_c0_s {B : Nat} {e : pq_E} {start size total : Nat} (h : pq_EI B e) (h0 : 1 ≤ total) (h1 : total ≤ 65536) (h2 : 1 ≤ size) (h3 : start + size ≤ total) :
    (pq_c0 e start size total).1 + (pq_c0 e start size total).2.1 ≤ 8589934592 ∧ 256 ≤ (pq_c0 e start size total).2.1 ∧ (pq_c0 e start size total).2.1 < 4294967296 := by
  obtain ⟨w, l, r0, r1⟩ := h
  have ⟨a, b⟩ := pq_r r0 h0 h1
  show e.1 + e.2.1 / total * start + e.2.1 / total * size ≤ 8589934592 ∧ 256 ≤ e.2.1 / total * size ∧ e.2.1 / total * size < 4294967296
  generalize hr : e.2.1 / total = r at *
  have m1 : r * (start + size) ≤ r * total := Nat.mul_le_mul_left r h3
  have m2 : r * 1 ≤ r * size := Nat.mul_le_mul_left r h2
  rw [Nat.mul_add] at m1
  omega
theorem pq_cd_s {B : Nat} {e : pq_E} {start size total : Nat} (h : pq_EI B e) (h0 : 1 ≤ total) (h1 : total ≤ 65536) (h2 : 1 ≤ size) (h3 : start + size ≤ total) : pq_EI (B + 2) (pq_cd e start size total) := by
  have ⟨a, b, c⟩ := pq_c0_s h h0 h1 h2 h3
  exact pq_rn_s (e := pq_c0 e start size total) h.1 a b c
def pq_ap (k : Nat) : Nat := if pq_V 8 k ≤ 65536 then 0 else pq_bl (pq_V 8 k - 1) - 16
theorem pq_ap_s : ∀ k, k < 17 → 65536 < pq_V 8 k → 1 ≤ pq_ap k ∧ pq_ap k ≤ 8 ∧ (pq_V 8 k - 1) / 2 ^ pq_ap k + 1 ≤ 65536 ∧ pq_bl (pq_V 8 k - 1) = pq_ap k + 16 := by decide +kernel
theorem pq_ap_p : ∀ a, a ≤ 8 → 1 ≤ 2 ^ a ∧ 2 ^ a ≤ 256 := by
  intro a h
  exact ⟨Nat.one_le_two_pow, Nat.pow_le_pow_right (n := 2) (i := a) (j := 8) (by decide) h⟩
def pq_cp (e : pq_E) (k idx : Nat) : pq_E :=
  if pq_V 8 k ≤ 65536 then pq_cd e idx 1 (pq_V 8 k)
  else pq_cd (pq_cd e (idx / 2 ^ pq_ap k) 1 ((pq_V 8 k - 1) / 2 ^ pq_ap k + 1)) (idx % 2 ^ pq_ap k) 1 (2 ^ pq_ap k)
theorem pq_cp_s {B : Nat} {e : pq_E} {k idx : Nat} (h : pq_EI B e) (hk : k ≤ 16) (hi : idx < pq_V 8 k) : pq_EI (B + 4) (pq_cp e k idx) := by
  unfold pq_cp
  by_cases c : pq_V 8 k ≤ 65536
  · rw [if_pos c]
    exact pq_EI_le (pq_cd_s h (by omega) c (by omega) (by omega)) (by omega)
  · rw [if_neg c]
    have ⟨a1, a2, a3, _⟩ := pq_ap_s k (by omega) (by omega)
    have ⟨p1, p2⟩ := pq_ap_p _ a2
    have m : idx / 2 ^ pq_ap k ≤ (pq_V 8 k - 1) / 2 ^ pq_ap k := Nat.div_le_div_right (by omega)
    have r : idx % 2 ^ pq_ap k < 2 ^ pq_ap k := Nat.mod_lt _ p1
    exact pq_cd_s (pq_cd_s h (Nat.succ_pos _) a3 (Nat.le_refl _) (Nat.succ_le_succ m)) p1 (Nat.le_trans p2 (by decide)) (Nat.le_refl _) r
/-! the range decoder: position, range, code -/
def pq_by (pk : Nat → Int32) (le p : Nat) : Nat := if p < le then (pk p).toNatClampNeg else 0
theorem pq_by_e {pk : Nat → Int32} {le p : Nat} (h : pq_B pk) (hl : le ≤ 64) (hp : p < le) : pk p = nI (pq_by pk le p) ∧ pq_by pk le p < 256 := by
  obtain ⟨b, hb, e⟩ := h p (by omega)
  unfold pq_by
  rw [if_pos hp, e, nI_clamp (by omega)]
  exact ⟨rfl, hb⟩
theorem pq_by_z {pk : Nat → Int32} {le p : Nat} (hp : ¬ p < le) : pq_by pk le p = 0 := if_neg hp
theorem pq_by_lt {pk : Nat → Int32} {le : Nat} (h : pq_B pk) (hl : le ≤ 64) (p : Nat) : pq_by pk le p < 256 := by
  by_cases c : p < le
  · exact (pq_by_e h hl c).2
  · rw [pq_by_z c]; decide
abbrev pq_D : Type := Nat × Nat × Nat
def pq_tk (pk : Nat → Int32) (le : Nat) (d : pq_D) : pq_D := (d.1 + 1, d.2.1, (d.2.2 * 256 + pq_by pk le d.1) % 4294967296)
def pq_t1 (pk : Nat → Int32) (le : Nat) (d : pq_D) : pq_D := pq_tk pk le (d.1, d.2.1 * 256, d.2.2)
def pq_dn (pk : Nat → Int32) (le : Nat) (d : pq_D) : pq_D := if d.2.1 < 16777216 then (if (pq_t1 pk le d).2.1 < 16777216 then pq_t1 pk le (pq_t1 pk le d) else pq_t1 pk le d) else d
def pq_DI (B : Nat) (d : pq_D) : Prop := d.1 ≤ B ∧ 16777216 ≤ d.2.1 ∧ d.2.1 < 4294967296 ∧ d.2.2 < 4294967296
theorem pq_DI_le {B C : Nat} {d : pq_D} (h : pq_DI B d) (hb : B ≤ C) : pq_DI C d := ⟨Nat.le_trans h.1 hb, h.2⟩
theorem pq_t1_s (pk : Nat → Int32) (le : Nat) (d : pq_D) : (pq_t1 pk le d).1 = d.1 + 1 ∧ (pq_t1 pk le d).2.1 = d.2.1 * 256 ∧ (pq_t1 pk le d).2.2 < 4294967296 := ⟨rfl, rfl, Nat.mod_lt _ (by decide)⟩
theorem pq_dn_s (pk : Nat → Int32) (le : Nat) {B : Nat} {d : pq_D} (h1 : d.1 ≤ B) (h2 : 256 ≤ d.2.1) (h3 : d.2.1 < 4294967296) (h4 : d.2.2 < 4294967296) : pq_DI (B + 2) (pq_dn pk le d) := by
  unfold pq_dn
  have ⟨a1, a2, a3⟩ := pq_t1_s pk le d
  have ⟨b1, b2, b3⟩ := pq_t1_s pk le (pq_t1 pk le d)
  by_cases c : d.2.1 < 16777216
  · rw [if_pos c]
    by_cases c2 : (pq_t1 pk le d).2.1 < 16777216
    · rw [if_pos c2]; exact ⟨by omega, by omega, by omega, b3⟩
    · rw [if_neg c2]; exact ⟨by omega, by omega, by omega, a3⟩
  · rw [if_neg c]; exact ⟨by omega, by omega, h3, h4⟩
def pq_dv (d : pq_D) (total : Nat) : Nat := if total - 1 < d.2.2 / (d.2.1 / total) then total - 1 else d.2.2 / (d.2.1 / total)
def pq_d0 (d : pq_D) (total start size : Nat) : pq_D := (d.1, d.2.1 / total * size, d.2.2 - d.2.1 / total * start)
def pq_dc (pk : Nat → Int32) (le : Nat) (d : pq_D) (total start size : Nat) : pq_D := pq_dn pk le (pq_d0 d total start size)
theorem pq_dv_lt {d : pq_D} {total : Nat} (h : 1 ≤ total) : pq_dv d total < total := by
  unfold pq_dv
  by_cases c : total - 1 < d.2.2 / (d.2.1 / total)
  · rw [if_pos c]; omega
  · rw [if_neg c]; omega
theorem pq_dv_m {d : pq_D} {total start : Nat} (h : start ≤ pq_dv d total) : d.2.1 / total * start ≤ d.2.2 := by
  have h2 : start ≤ d.2.2 / (d.2.1 / total) := by
    unfold pq_dv at h
    by_cases c : total - 1 < d.2.2 / (d.2.1 / total)
    · rw [if_pos c] at h; omega
    · rw [if_neg c] at h; exact h
  exact Nat.le_trans (Nat.mul_le_mul_left _ h2) (Nat.mul_div_le _ _)
theorem pq_d0_s {B : Nat} {d : pq_D} {total start size : Nat} (h : pq_DI B d) (h0 : 1 ≤ total) (h1 : total ≤ 65536) (h2 : 1 ≤ size) (h3 : size ≤ total) :
    (pq_d0 d total start size).1 ≤ B ∧ 256 ≤ (pq_d0 d total start size).2.1 ∧ (pq_d0 d total start size).2.1 < 4294967296 ∧ (pq_d0 d total start size).2.2 < 4294967296 := by
  obtain ⟨p, r0, r1, cd⟩ := h
  have ⟨a, b⟩ := pq_r r0 h0 h1
  refine ⟨p, ?_, ?_, Nat.lt_of_le_of_lt (Nat.sub_le _ _) cd⟩
  · show 256 ≤ d.2.1 / total * size
    have m2 : d.2.1 / total * 1 ≤ d.2.1 / total * size := Nat.mul_le_mul_left _ h2
    omega
  · show d.2.1 / total * size < _
    have m1 : d.2.1 / total * size ≤ d.2.1 / total * total := Nat.mul_le_mul_left _ h3
    omega
theorem pq_dc_s (pk : Nat → Int32) (le : Nat) {B : Nat} {d : pq_D} {total start size : Nat} (h : pq_DI B d) (h0 : 1 ≤ total) (h1 : total ≤ 65536) (h2 : 1 ≤ size) (h3 : size ≤ total) : pq_DI (B + 2) (pq_dc pk le d total start size) := by
  have ⟨a, b, c, e⟩ := pq_d0_s (start := start) h h0 h1 h2 h3
  exact pq_dn_s pk le (d := pq_d0 d total start size) a b c e
/-- a pair: the index of the pulses, and the decoder behind it -/
def pq_dp (pk : Nat → Int32) (le : Nat) (d : pq_D) (k : Nat) : Nat × pq_D :=
  if pq_V 8 k ≤ 65536 then (pq_dv d (pq_V 8 k), pq_dc pk le d (pq_V 8 k) (pq_dv d (pq_V 8 k)) 1)
  else
    (if pq_V 8 k - 1 < pq_dv d ((pq_V 8 k - 1) / 2 ^ pq_ap k + 1) * 2 ^ pq_ap k + pq_dv (pq_dc pk le d ((pq_V 8 k - 1) / 2 ^ pq_ap k + 1) (pq_dv d ((pq_V 8 k - 1) / 2 ^ pq_ap k + 1)) 1) (2 ^ pq_ap k) then pq_V 8 k - 1
      else pq_dv d ((pq_V 8 k - 1) / 2 ^ pq_ap k + 1) * 2 ^ pq_ap k + pq_dv (pq_dc pk le d ((pq_V 8 k - 1) / 2 ^ pq_ap k + 1) (pq_dv d ((pq_V 8 k - 1) / 2 ^ pq_ap k + 1)) 1) (2 ^ pq_ap k),
     pq_dc pk le (pq_dc pk le d ((pq_V 8 k - 1) / 2 ^ pq_ap k + 1) (pq_dv d ((pq_V 8 k - 1) / 2 ^ pq_ap k + 1)) 1) (2 ^ pq_ap k) (pq_dv (pq_dc pk le d ((pq_V 8 k - 1) / 2 ^ pq_ap k + 1) (pq_dv d ((pq_V 8 k - 1) / 2 ^ pq_ap k + 1)) 1) (2 ^ pq_ap k)) 1)
theorem pq_min {V X : Nat} (h : 1 ≤ V) : (if V - 1 < X then V - 1 else X) < V := by
  split <;> omega
theorem pq_dp_s (pk : Nat → Int32) (le : Nat) {B : Nat} {d : pq_D} {k : Nat} (h : pq_DI B d) (hk : k ≤ 16) : (pq_dp pk le d k).1 < pq_V 8 k ∧ pq_DI (B + 4) (pq_dp pk le d k).2 := by
  have hv := pq_Vpos k (by omega)
  unfold pq_dp
  by_cases c : pq_V 8 k ≤ 65536
  · rw [if_pos c]
    exact ⟨pq_dv_lt hv, pq_DI_le (pq_dc_s pk le h hv c (by omega) hv) (by omega)⟩
  · rw [if_neg c]
    have ⟨a1, a2, a3, _⟩ := pq_ap_s k (by omega) (by omega)
    have ⟨p1, p2⟩ := pq_ap_p _ a2
    refine ⟨?_, ?_⟩
    · exact pq_min hv
    · exact pq_dc_s pk le (pq_dc_s pk le h (Nat.succ_pos _) a3 (Nat.le_refl _) (Nat.succ_pos _)) p1 (Nat.le_trans p2 (by decide)) (Nat.le_refl _) p1
