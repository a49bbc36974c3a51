/-! The law's loop. -/
section LAWL
variable {sc : Nat × (Nat → Int32)} {h : jH} {A : aA} {n i : Nat} {u : Nat × Nat}
/-- the law answers true -/
def lQ : jQ := fun o _ _ => o = .inl (some (.int 1))
/-- the loop's end -/
theorem l_exit (hu : u.1 ≤ 601024 ∧ u.2 ≤ 7293034) {lv : List (Option Value)} : WP mLL lQ 1916 lv [] (jG0 sc) h u :=
  j_iconst (n := 1) 1 rfl (by decide +kernel) (j_iret (ty := .boolean) rfl (jbn (Or.inr rfl)) hu.1 hu.2 (by decide +kernel) rfl)
set_option maxRecDepth 100000 in
/-- one call: what it leaves is enough -/
theorem l_one (hi : i + 5 < sc.1) (hL : sc.1 ≤ 3072) (ok : aOk n A) (hn : n + 1 < 2 ^ 31) (kC : RC h A) (kM : RM h A) (hu : u.1 + 1 ≤ 601024 ∧ u.2 + 6 ≤ 7293034) (kk : lK sc lQ i n u) : WP mLL lQ 33 (lvs i) [] (jG0 sc) h u := by
  refine j_aload_n (i := 0) rfl (by decide +kernel) ?_
  refine j_iload (i := 4) rfl (by decide +kernel) ?_
  refine j_sld (show vp_in (nI i) sc.1 from vp_in_nI (by omega) (by omega)) (by decide +kernel) ?_
  refine j_bipush (n := 31) 31 (by decide) (by decide +kernel) (j_iand (by decide +kernel) ?_)
  refine j_switch (dflt := 1870) (lo := 0) (hi := 31) (offs := #[144, 217, 242, 314, 365, 378, 458, 554, 622, 706, 762, 830, 910, 966, 1034, 1114, 1170, 1242, 1278, 1319, 1403, 1447, 1503, 1547, 1603, 1659, 1672, 1740, 1808, 1821, 1832, 1845]) (len := 144) [184, 257, 282, 354, 405, 418, 498, 594, 662, 746, 802, 870, 950, 1006, 1074, 1154, 1210, 1282, 1318, 1359, 1443, 1487, 1543, 1587, 1643, 1699, 1712, 1780, 1848, 1861, 1872, 1885] 1910 (by decide +kernel) (by decide) (by decide) (by decide) (fun _ => kk A h u (ok.up (Nat.le_succ n)) kC kM (Nat.le_succ _) (Nat.le_add_right _ _)) ?_
  refine ⟨fun _ => lc_0 hi hL ok hn kC kM hu kk, fun _ => lc_1 hi hL ok hn kC kM hu kk, fun _ => lc_2 hi hL ok hn kC kM hu kk, fun _ => lc_3 hi hL ok hn kC kM hu kk, fun _ => lc_4 hi hL ok hn kC kM hu kk, fun _ => lc_5 hi hL ok hn kC kM hu kk, fun _ => lc_6 hi hL ok hn kC kM hu kk, fun _ => lc_7 hi hL ok hn kC kM hu kk, fun _ => lc_8 hi hL ok hn kC kM hu kk, fun _ => lc_9 hi hL ok hn kC kM hu kk, fun _ => lc_10 hi hL ok hn kC kM hu kk, fun _ => lc_11 hi hL ok hn kC kM hu kk, fun _ => lc_12 hi hL ok hn kC kM hu kk, fun _ => lc_13 hi hL ok hn kC kM hu kk, fun _ => lc_14 hi hL ok hn kC kM hu kk, fun _ => lc_15 hi hL ok hn kC kM hu kk, fun _ => lc_16 hi hL ok hn kC kM hu kk, fun _ => lc_17 hi hL ok hn kC kM hu kk, fun _ => lc_18 hi hL ok hn kC kM hu kk, fun _ => lc_19 hi hL ok hn kC kM hu kk, fun _ => lc_20 hi hL ok hn kC kM hu kk, fun _ => lc_21 hi hL ok hn kC kM hu kk, fun _ => lc_22 hi hL ok hn kC kM hu kk, fun _ => lc_23 hi hL ok hn kC kM hu kk, fun _ => lc_24 hi hL ok hn kC kM hu kk, fun _ => lc_25 hi hL ok hn kC kM hu kk, fun _ => lc_26 hi hL ok hn kC kM hu kk, fun _ => lc_27 hi hL ok hn kC kM hu kk, fun _ => lc_28 hi hL ok hn kC kM hu kk, fun _ => lc_29 hi hL ok hn kC kM hu kk, fun _ => lc_30 hi hL ok hn kC kM hu kk, fun _ => lc_31 hi hL ok hn kC kM hu kk, trivial⟩
/-- the whole loop: r calls still to come, q made -/
theorem l_loop (hL : sc.1 ≤ 3072) : ∀ (r q : Nat) (A : aA) (h : jH) (u : Nat × Nat), 6 * (q + r) ≤ sc.1 → sc.1 < 6 * (q + r) + 6 → aOk q A → RC h A → RM h A → u.1 ≤ 180 + q → u.2 ≤ 30000 + 6 * q → WP mLL lQ 23 (lvs (6 * q)) [] (jG0 sc) h u := by
  intro r
  induction r with
  | zero =>
    intro q A h u h1 h2 ok kC kM u1 u2
    refine j_iload (i := 4) rfl (by decide +kernel) (j_aload_n (i := 0) rfl (by decide +kernel) (j_slen (nI sc.1) rfl (by decide +kernel) (j_bipush (n := 6) (nI 6) (by decide) (by decide +kernel) (j_isub (by decide +kernel) ?_))))
    refine j_icmp_gt (off := 1886) 1916 (by decide +kernel) (by decide) (fun _ => l_exit ⟨by omega, by omega⟩) (fun z => absurd ?_ z)
    by_cases g : 6 ≤ sc.1
    · rw [nI_subN g]; exact nI_lt (by omega) (by omega)
    · have q0 : q = 0 := by omega
      subst q0
      have six : ∀ L, L < 6 → nI L - nI 6 < nI (6 * 0) := by decide
      exact six _ (by omega)
  | succ r ih =>
    intro q A h u h1 h2 ok kC kM u1 u2
    refine j_iload (i := 4) rfl (by decide +kernel) (j_aload_n (i := 0) rfl (by decide +kernel) (j_slen (nI sc.1) rfl (by decide +kernel) (j_bipush (n := 6) (nI 6) (by decide) (by decide +kernel) (j_isub (by decide +kernel) ?_))))
    refine j_icmp_gt (off := 1886) 1916 (by decide +kernel) (by decide) (fun z => absurd z ?_) (fun _ => ?_)
    · rw [nI_subN (show 6 ≤ sc.1 by omega)]; exact nI_nlt (by omega) (by omega)
    · refine l_one (n := q) (by omega) hL ok (by omega) kC kM ⟨by omega, by omega⟩ ?_
      intro A' h' u' ok' kC' kM' v1 v2
      refine j_iinc (i := 4) (n := 6) rfl (by decide +kernel) (by decide) ?_
      refine j_eqlv (lvs (6 * (q + 1))) ?_ ?_
      · have e : nI (6 * q) + Int32.ofInt 6 = nI (6 * (q + 1)) := by
          rw [show Int32.ofInt 6 = nI 6 from by decide, nI_add, Nat.mul_succ]
        exact congrArg (fun v => [some (Value.ref 1000), some (Value.ref 0), some (Value.ref 159), some (Value.ref 179), some (Value.int v), none, none]) e
      · exact j_goto (off := -1890) 23 (by decide +kernel) (by decide) (ih (q + 1) A' h' u' (by omega) (by omega) ok' kC' kM' (by omega) (by omega))
end LAWL
