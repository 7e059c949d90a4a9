section PLC
variable {x_length x_cache x_pending x_readPosition : Int32} {x_low x_encoderRange x_decoderRange x_code x_decoderStep : Int64} {x_pulseCounts x_coefs x_energies x_pulses x_decoded x_vec x_sizes x_packet : Nat → Int32}
theorem pl_50 {L : Nat} {xs : Nat → Int32} {kc ks : Nat} (hL : L ≤ 260) : ∀ d t (le : Nat) (lo rg : Int64) (ca pe rp : Int32) (dr cd ds : Int64) (pc co en pu de vec sz pk : Nat → Int32), L ≤ t + d → t ≤ 280 → pl_I le pc co en vec sz pk →
    wL_law_50 (fun r => r = 1) L xs kc ks (d + 1) (nI t) (nI le) lo rg ca pe rp dr cd ds pc co en pu de vec sz pk := by
  intro d
  induction d with
  | zero =>
    intro t le lo rg ca pe rp dr cd ds pc co en pu de vec sz pk h1 h2 I
    exact br_t (nI_le (by omega) (by omega)) (pl_frame I (fun _ _ _ _ _ _ _ _ _ _ _ _ _ _ => rfl))
  | succ d ih =>
    intro t le lo rg ca pe rp dr cd ds pc co en pu de vec sz pk h1 h2 I
    by_cases c : L ≤ t
    · exact br_t (nI_le c (by omega)) (pl_frame I (fun _ _ _ _ _ _ _ _ _ _ _ _ _ _ => rfl))
    · refine br_f (nI_ge (by omega) (by omega)) (pl_cell (j := t) hL rfl (by omega) (fun r => nm_e ?_))
      by_cases z0 : (r &&& 3) = 0
      · refine br_t z0 (pl_cell (j := t + 1) hL (nI_1 t) (by omega) (fun r2 => ?_))
        obtain ⟨b, hb, eb⟩ := pk_andE r2 (m := 3) 2 (by decide)
        refine nm_r eb (pl_cell (j := t + 2) hL (nI_add t 2) (by omega) (fun r3 => nm_e ⟨9, pl_94 hL (by omega) hb ?_ 8 0 co (by omega) I.2.2.1⟩))
        intro co' hc'
        exact ih (t + 11) le lo rg ca pe rp dr cd ds pc co' en pu de vec sz pk (by omega) (by omega) ⟨I.1, I.2.1, hc', I.2.2.2⟩
      · refine br_f z0 ?_
        by_cases z2 : (r &&& 3) = 2
        · refine br_t z2 (pl_cell (j := t + 1) hL (nI_1 t) (by omega) (fun r2 => ?_))
          obtain ⟨n, hn, en1⟩ := pk_andE r2 (m := 7) 3 (by decide)
          have hn2 : n < 8 := hn
          refine nm_r (e' := nI (n + 1)) (by rw [en1, nI_1]) (pl_cell (j := t + 2) hL (nI_add t 2) (by omega) (fun r3 => ⟨by decide, ?_⟩))
          obtain ⟨a, ha, ea⟩ := pk_andE r3 (m := 2147483647) 31 (by decide)
          have ha2 : a % 17 < 17 := Nat.mod_lt _ (by decide)
          refine nm_r (e' := nI (a % 17)) (by rw [ea]; exact pk_rem (d := 17) ha (by decide) (by decide)) ⟨n + 1 + (8 - (n + 1) + 1), pl_182a hL (by omega) (by omega) (by omega) I.2.2.2.2.1 ?_ (n + 1) 0 (a % 17) 0 0 vec (by omega) ⟨by omega, I.2.2.2.2.2.2.2, rfl, (by decide : 0 < 1), fun i hi => absurd hi (Nat.not_lt_zero i)⟩⟩
          intro w hw
          exact ih (t + 11) le lo rg ca pe rp dr cd ds pc co en pu de w sz pk (by omega) (by omega) ⟨I.1, I.2.1, I.2.2.1, I.2.2.2.1, I.2.2.2.2.1, I.2.2.2.2.2.1, I.2.2.2.2.2.2.1, hw⟩
        · refine br_f z2 (pl_frame I ?_)
          intro le' lo' rg' ca' pe' rp' dr' cd' ds' en' pu' de' pk' I'
          exact br_f (by decide) (nm_r (nI_1 t) (ih (t + 1) le' lo' rg' ca' pe' rp' dr' cd' ds' pc co en' pu' de' vec sz pk' (by omega) (by omega) I'))
end PLC
theorem i_vc (xs : Nat → Int32) (L : Nat) (hL : L ≤ 260) : wpL_law (fun r => r = 1) L xs := by
  unfold wpL_law
  refine pl_cell (j := 0) hL rfl (by decide) (fun r0 => pl_cell (j := 1) hL rfl (by decide) (fun r1 => pl_cell (j := 2) hL rfl (by decide) (fun r2 => pl_cell (j := 3) hL rfl (by decide) (fun r3 => ⟨8, 365, by decide, by decide, px_init ?_⟩))))
  intro t ht
  refine ⟨L + 1, pl_50 hL L 4 0 _ _ _ _ _ _ _ _ _ _ _ _ _ _ _ _ (by omega) (by decide) ⟨by decide, ?_, ?_, ?_, ht, ?_, fun _ _ => rfl, ?_⟩⟩
  · intro b hb
    have c0 := pq_cl_1 ((r0 &&& 15) + 1)
    have c1 := pq_cl_1 ((r1 &&& 15) + 1)
    have c2 := pq_cl_1 ((r2 &&& 15) + 1)
    have c3 := pq_cl_1 ((r3 &&& 15) + 1)
    by_cases b3 : b = 3
    · subst b3; rw [pk_us]; exact c3
    · rw [pk_un b3]
      by_cases b2 : b = 2
      · subst b2; rw [pk_us]; exact c2
      · rw [pk_un b2]
        by_cases b1 : b = 1
        · subst b1; rw [pk_us]; exact c1
        · rw [pk_un b1]
          have b0 : b = 0 := by omega
          subst b0; rw [pk_us]; exact c0
  · intro j _; exact (by decide : pq_mg 0 ≤ 32767)
  · intro i _; exact ⟨0, by decide, rfl⟩
  · intro b _; exact ⟨0, by decide, rfl⟩
  · intro i _; exact (by decide : pq_mg 0 ≤ 16)
