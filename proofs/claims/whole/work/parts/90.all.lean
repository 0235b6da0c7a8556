/-! the law -/
theorem lw2 {X : Option (Int × jH)} {M : jH → Option (Int × jH)} {K : jH → Option (Int × jH)} {v : Int} {g m : jH} (q1 : X = some (v, g)) (q2 : M g = some (v, m)) : (X.bind fun a => (M a.2).bind fun b => if a.1 = b.1 then K b.2 else some (0, b.2)) = K m := by
  rw [q1, obs]
  show (M g).bind _ = _
  rw [q2, obs]
  exact if_pos rfl
theorem lw1 {X : Option Int} {Mo : Option (Int × jH)} {K : jH → Option (Int × jH)} {v : Int} {m : jH} (q1 : X = some v) (q2 : Mo = some (v, m)) : (X.bind fun a => Mo.bind fun b => if a = b.1 then K b.2 else some (0, b.2)) = K m := by
  rw [q1, obs, q2, obs]
  exact if_pos rfl
theorem lw3 {X : Option Int} {Mo : Option (Int × jH)} {K : jH → Option (Int × jH)} {v : Int} {m : jH} (q1 : X = some v) (q2 : Mo = some (v, m)) : (X.bind fun a => Mo.bind fun b => if jcmp a b.1 = 0 then K b.2 else some (0, b.2)) = K m := by
  rw [q1, obs, q2, obs]
  exact if_pos (jcmp_eq.mpr rfl)
theorem law_step (E : jE) (hl : jsl E ≤ 2560) (hx : ∀ j, ok32 (jsx E j)) (k : Int → jH → Option (Int × jH)) (n i : Nat) (hi : i + 5 ≤ jsl E) (h : jH) (hR : RR h) : ∃ h', RR h' ∧ f_L_law_lp18 E k (n + 1) (i : Int) h = f_L_law_lp18 E k n ((i + 5 : Nat) : Int) h' := by
  have b0 : 0 ≤ (i : Int) ∧ (i : Int) < ((jsl E : Nat) : Int) := by omega
  have e1 : jadd (i : Int) 1 = ((i + 1 : Nat) : Int) := by rw [jadd_eq (by omega) (by omega)]; rfl
  have e2 : jadd (i : Int) 2 = ((i + 2 : Nat) : Int) := by rw [jadd_eq (by omega) (by omega)]; rfl
  have e3 : jadd (i : Int) 3 = ((i + 3 : Nat) : Int) := by rw [jadd_eq (by omega) (by omega)]; rfl
  have e4 : jadd (i : Int) 4 = ((i + 4 : Nat) : Int) := by rw [jadd_eq (by omega) (by omega)]; rfl
  have e5 : jadd (i : Int) 5 = ((i + 5 : Nat) : Int) := by rw [jadd_eq (by omega) (by omega)]; rfl
  have b1 : 0 ≤ ((i + 1 : Nat) : Int) ∧ ((i + 1 : Nat) : Int) < ((jsl E : Nat) : Int) := by omega
  have b2 : 0 ≤ ((i + 2 : Nat) : Int) ∧ ((i + 2 : Nat) : Int) < ((jsl E : Nat) : Int) := by omega
  have b3 : 0 ≤ ((i + 3 : Nat) : Int) ∧ ((i + 3 : Nat) : Int) < ((jsl E : Nat) : Int) := by omega
  have b4 : 0 ≤ ((i + 4 : Nat) : Int) ∧ ((i + 4 : Nat) : Int) < ((jsl E : Nat) : Int) := by omega
  rw [f_L_law_lp18, if_neg (by rw [jsub_eq (by omega) (by omega)]; omega), jgd_pos b0]
  by_cases o : jand (jsx E (i : Int).toNat) 31 = 0
  · rw [if_pos o, e5]
    obtain ⟨g, m, q1, q2, q3⟩ := q_clear hR
    rw [q1, obs, q2, obs]
    exact ⟨m, q3, rfl⟩
  rw [if_neg o]; clear o
  by_cases o : jand (jsx E (i : Int).toNat) 31 = 1
  · rw [if_pos o, e5, e1, e2]
    simp only [jgd_pos b1, jgd_pos b2]
    obtain ⟨v, g, m, q1, q2, q3⟩ := q_put hR (jsx E ((i + 1 : Nat) : Int).toNat) (jsx E ((i + 2 : Nat) : Int).toNat)
    exact ⟨m, q3, lw2 (M := fun z => f_M_put z _ _) (K := fun z => f_L_law_lp18 E k n _ z) q1 q2⟩
  rw [if_neg o]; clear o
  by_cases o : jand (jsx E (i : Int).toNat) 31 = 2
  · rw [if_pos o, e5, e1, e2, e3, e4]
    simp only [jgd_pos b1, jgd_pos b2, jgd_pos b3, jgd_pos b4]
    obtain ⟨v, g, m, q1, q2, q3⟩ := q_set hR (jsx E ((i + 1 : Nat) : Int).toNat) (jsx E ((i + 2 : Nat) : Int).toNat) (jsx E ((i + 3 : Nat) : Int).toNat) (jsx E ((i + 4 : Nat) : Int).toNat)
    exact ⟨m, q3, lw2 (M := fun z => f_M_set z _ _ _ _) (K := fun z => f_L_law_lp18 E k n _ z) q1 q2⟩
  rw [if_neg o]; clear o
  by_cases o : jand (jsx E (i : Int).toNat) 31 = 3
  · rw [if_pos o, e5, e1]
    simp only [jgd_pos b1]
    obtain ⟨v, m, q1, q2, q3⟩ := q_at hR (jsx E ((i + 1 : Nat) : Int).toNat)
    exact ⟨m, q3, lw1 (K := fun z => f_L_law_lp18 E k n _ z) q1 q2⟩
  rw [if_neg o]; clear o
  by_cases o : jand (jsx E (i : Int).toNat) 31 = 4
  · rw [if_pos o, e5, e1]
    simp only [jgd_pos b1]
    obtain ⟨v, m, q1, q2, q3⟩ := q_state hR (jsx E ((i + 1 : Nat) : Int).toNat)
    exact ⟨m, q3, lw1 (K := fun z => f_L_law_lp18 E k n _ z) q1 q2⟩
  rw [if_neg o]; clear o
  by_cases o : jand (jsx E (i : Int).toNat) 31 = 5
  · rw [if_pos o, e5]
    obtain ⟨v, g, m, q1, q2, q3⟩ := q_moves hR
    exact ⟨m, q3, lw2 (M := fun z => f_M_moves z) (K := fun z => f_L_law_lp18 E k n _ z) q1 q2⟩
  rw [if_neg o]; clear o
  by_cases o : jand (jsx E (i : Int).toNat) 31 = 6
  · rw [if_pos o, e5, e1]
    simp only [jgd_pos b1]
    obtain ⟨v, g, m, q1, q2, q3⟩ := q_move hR (hx ((i + 1 : Nat) : Int).toNat)
    exact ⟨m, q3, lw2 (M := fun z => f_M_move z _) (K := fun z => f_L_law_lp18 E k n _ z) q1 q2⟩
  rw [if_neg o]; clear o
  by_cases o : jand (jsx E (i : Int).toNat) 31 = 7
  · rw [if_pos o, e5, e1]
    simp only [jgd_pos b1]
    obtain ⟨v, g, m, q1, q2, q3⟩ := q_make hR (hx ((i + 1 : Nat) : Int).toNat)
    exact ⟨m, q3, lw2 (M := fun z => f_M_make z _) (K := fun z => f_L_law_lp18 E k n _ z) q1 q2⟩
  rw [if_neg o]; clear o
  by_cases o : jand (jsx E (i : Int).toNat) 31 = 8
  · rw [if_pos o, e5]
    obtain ⟨v, g, m, q1, q2, q3⟩ := q_back hR
    exact ⟨m, q3, lw2 (M := fun z => f_M_back z) (K := fun z => f_L_law_lp18 E k n _ z) q1 q2⟩
  rw [if_neg o]; clear o
  by_cases o : jand (jsx E (i : Int).toNat) 31 = 9
  · rw [if_pos o, e5, e1, e2]
    simp only [jgd_pos b1, jgd_pos b2]
    obtain ⟨v, m, q1, q2, q3⟩ := q_attackers hR (jsx E ((i + 1 : Nat) : Int).toNat) (jsx E ((i + 2 : Nat) : Int).toNat)
    exact ⟨m, q3, lw3 (K := fun z => f_L_law_lp18 E k n _ z) q1 q2⟩
  rw [if_neg o]; clear o
  by_cases o : jand (jsx E (i : Int).toNat) 31 = 10
  · rw [if_pos o, e5]
    obtain ⟨v, m, q1, q2, q3⟩ := q_checked hR
    exact ⟨m, q3, lw1 (K := fun z => f_L_law_lp18 E k n _ z) q1 q2⟩
  rw [if_neg o]; clear o
  by_cases o : jand (jsx E (i : Int).toNat) 31 = 11
  · rw [if_pos o, e5]
    obtain ⟨v, g, m, q1, q2, q3⟩ := q_status hR
    exact ⟨m, q3, lw2 (M := fun z => f_M_status z) (K := fun z => f_L_law_lp18 E k n _ z) q1 q2⟩
  rw [if_neg o]; clear o
  by_cases o : jand (jsx E (i : Int).toNat) 31 = 12
  · rw [if_pos o, e5]
    obtain ⟨v, m, q1, q2, q3⟩ := q_seen hR
    exact ⟨m, q3, lw1 (K := fun z => f_L_law_lp18 E k n _ z) q1 q2⟩
  rw [if_neg o]; clear o
  by_cases o : jand (jsx E (i : Int).toNat) 31 = 13
  · rw [if_pos o, e5, e1]
    simp only [jgd_pos b1]
    obtain ⟨v, g, m, q1, q2, q3⟩ := q_lines hR (jsx E ((i + 1 : Nat) : Int).toNat)
    exact ⟨m, q3, lw2 (M := fun z => f_M_lines z _) (K := fun z => f_L_law_lp18 E k n _ z) q1 q2⟩
  rw [if_neg o]; clear o
  by_cases o : jand (jsx E (i : Int).toNat) 31 = 14
  · rw [if_pos o, e5]
    obtain ⟨v, g, m, q1, q2, q3⟩ := q_mates hR
    exact ⟨m, q3, lw2 (M := fun z => f_M_mates z) (K := fun z => f_L_law_lp18 E k n _ z) q1 q2⟩
  rw [if_neg o]; clear o
  by_cases o : jand (jsx E (i : Int).toNat) 31 = 15
  · rw [if_pos o, e5, e1, e2, e3]
    simp only [jgd_pos b1, jgd_pos b2, jgd_pos b3]
    obtain ⟨v, g, m, q1, q2, q3⟩ := q_type hR (jlor (jlshl (jsx E ((i + 1 : Nat) : Int).toNat) 32) (jland (jsx E ((i + 2 : Nat) : Int).toNat) 4294967295)) (hx ((i + 3 : Nat) : Int).toNat)
    exact ⟨m, q3, lw2 (M := fun z => f_M_type z _ _) (K := fun z => f_L_law_lp18 E k n _ z) q1 q2⟩
  rw [if_neg o]; clear o
  by_cases o : jand (jsx E (i : Int).toNat) 31 = 16
  · rw [if_pos o, e5]
    obtain ⟨v, g, m, q1, q2, q3⟩ := q_read hR
    exact ⟨m, q3, lw2 (M := fun z => f_M_read z) (K := fun z => f_L_law_lp18 E k n _ z) q1 q2⟩
  rw [if_neg o]; clear o
  by_cases o : jand (jsx E (i : Int).toNat) 31 = 17
  · rw [if_pos o, e5]
    obtain ⟨v, g, m, q1, q2, q3⟩ := q_print hR
    exact ⟨m, q3, lw2 (M := fun z => f_M_print z) (K := fun z => f_L_law_lp18 E k n _ z) q1 q2⟩
  rw [if_neg o]; clear o
  by_cases o : jand (jsx E (i : Int).toNat) 31 = 18
  · rw [if_pos o, e5, e1]
    simp only [jgd_pos b1]
    obtain ⟨v, m, q1, q2, q3⟩ := q_character hR (jsx E ((i + 1 : Nat) : Int).toNat)
    exact ⟨m, q3, lw1 (K := fun z => f_L_law_lp18 E k n _ z) q1 q2⟩
  rw [if_neg o]; clear o
  by_cases o : jand (jsx E (i : Int).toNat) 31 = 19
  · rw [if_pos o, e5]
    obtain ⟨v, g, m, q1, q2, q3⟩ := q_check hR
    exact ⟨m, q3, lw2 (M := fun z => f_M_check z) (K := fun z => f_L_law_lp18 E k n _ z) q1 q2⟩
  rw [if_neg o, e5]
  exact ⟨h, hR, rfl⟩
theorem law_run (E : jE) (hl : jsl E ≤ 2560) (hx : ∀ j, ok32 (jsx E j)) : ∀ (n i : Nat) (h : jH), jsl E < i + 5 * n → RR h → ∃ h', f_L_law_lp18 E (fun l43 h44 => some (1, h44)) (n + 1) (i : Int) h = some (1, h') := by
  intro n
  induction n with
  | zero =>
    intro i h hi hR
    refine ⟨h, ?_⟩
    rw [f_L_law_lp18, if_pos (by rw [jsub_eq (by omega) (by omega)]; omega)]
  | succ n ih =>
    intro i h hi hR
    by_cases c : i + 5 ≤ jsl E
    · obtain ⟨h', r, e⟩ := law_step E hl hx (fun l43 h44 => some (1, h44)) (n + 1) i c h hR
      rw [e]
      exact ih (i + 5) h' (by omega) r
    · refine ⟨h, ?_⟩
      rw [f_L_law_lp18, if_pos (by rw [jsub_eq (by omega) (by omega)]; omega)]
theorem RR_h0 : RR jh0 := by
  refine ⟨⟨0, by omega, rfl, rfl, fun s _ => rfl, fun s _ => ?_, Or.inl ⟨rfl, rfl, rfl⟩⟩, ⟨0, by omega, rfl, rfl, fun i hi => absurd hi (Nat.not_lt_zero _)⟩, ⟨0, by omega, rfl, rfl, fun i hi => absurd hi (Nat.not_lt_zero _)⟩⟩
  show 0 ≤ (0 : Int) ∧ (0 : Int) ≤ 12
  decide
theorem hlaw : ∀ E : jE, jsl E ≤ 2560 → (∀ j, ok32 (jsx E j)) → ∃ h', f_L_law E jh0 = some (1, h') := by
  intro E hl hx
  have := law_run E hl hx 999 0 jh0 (by omega) RR_h0
  exact this
