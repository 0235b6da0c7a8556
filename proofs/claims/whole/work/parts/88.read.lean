/-! reading a position -/
theorem pd_ok (y : jH) (hS : y 20 1 = 0 ∨ y 20 1 = 1) (hr : y 17 3 ≠ -1) : f_Rd_isPassedRankDue y = some (if y 17 3 = (if y 20 1 = 0 then 5 else 2) then 1 else 0) := by
  unfold f_Rd_isPassedRankDue f_X_otherSide f_X_rankFor
  rw [if_neg hr, obs, obs, (side_sub hS).1]
  rcases hS with e | e
  · rw [e, show (if (1 : Int) - 0 = 0 then (2 : Int) else jsub 7 2) = 5 by decide, show (if (0 : Int) = 0 then (5 : Int) else 2) = 5 by decide]
  · rw [e, show (if (1 : Int) - 1 = 0 then (2 : Int) else jsub 7 2) = 2 by decide, show (if (1 : Int) = 0 then (5 : Int) else 2) = 2 by decide]
theorem ite01 (P : Prop) [Decidable P] : (if P then (1 : Int) else 0) = 0 ∨ (if P then (1 : Int) else 0) = 1 := by
  by_cases q : P
  · rw [if_pos q]; exact Or.inr rfl
  · rw [if_neg q]; exact Or.inl rfl
theorem q_read {h : jH} (hR : RR h) : ∃ v g m, f_X_read h = some (v, g) ∧ f_M_read g = some (v, m) ∧ RR m := by
  obtain ⟨⟨n, r⟩, ⟨L, t1, t2, t3, t4⟩, rp⟩ := id hR
  have hn := r.1
  have hT : okT (h 19) L := ⟨t1, fun i hi => (t4 i hi).2⟩
  have tx : TxX h (h 19) L := ⟨t2, fun _ _ => rfl⟩
  have tmh : TxM h (h 19) L := ⟨t3, fun i hi => (t4 i hi).1⟩
  obtain ⟨x, md, z, vd, p1, -, fx, -, pc⟩ := parse_ok hT tx tmh
  -- the reference after the class
  have ref : ∀ g : jH, (∀ a, 24 ≤ a → g a = h a) → ∃ m' v', f_M_readAll (jup g 24 0 0) = some (v', m') ∧ FrP (jup g 24 0 0) m' ∧ ((z = 0 ∧ v' = 1 ∧ RdOk x m') ∨ (z ≠ 0 ∧ v' = 0 ∧ jadd (m' 24 11) 1 = z)) := by
    intro g gk
    have tm : TxM (jup g 24 0 0) (h 19) L := by
      unfold TxM
      rw [jup_sn _ _ _ (by decide), jup_n _ _ _ (by decide), gk 24 (by omega), gk 31 (by omega)]; exact tmh
    obtain ⟨x', m', z', v', q1, q2, -, q4, q5⟩ := parse_ok hT tx tm
    rw [p1] at q1
    have e := Option.some.inj q1
    have e1 : z = z' := congrArg Prod.fst e
    have e2 : x = x' := congrArg Prod.snd e
    subst e1 e2
    exact ⟨m', v', q2, q4, q5⟩
  unfold f_X_read f_Tx_wipe
  rw [p1, obs, obs]
  show ∃ v g m, (if z = 0 then if 150 < jup x 18 1 0 20 4 then some (-2, jup x 18 1 0) else (f_Rd_isPassedRankDue (jup x 18 1 0)).bind _ else some (z, jup x 18 1 0)) = some (v, g) ∧ _
  generalize hy : jup x 18 1 0 = y
  have yo : ∀ a, a ≠ 18 → y a = x a := fun a ha => by rw [← hy, jup_n _ _ _ ha]
  have y18 : y 18 1 = 0 := by rw [← hy, jup_ss]
  have yh : ∀ a, a ≠ 17 → a ≠ 18 → a ≠ 20 → a ≠ 21 → y a = h a := fun a h1 h2 h3 h4 => by rw [yo a h2]; exact fx a h1 h3 h4
  -- nothing adopted
  have keep : ∀ m' : jH, FrP (jup y 24 0 0) m' → RR (jup m' 24 10 0) := by
    intro m' F
    have mo : ∀ a, a ≤ 23 ∨ 30 ≤ a → jup m' 24 10 0 a = y a := fun a ha => by
      rw [jup_n _ _ _ (by omega), F.1 a (by omega) (by omega) (by omega) (by omega) (by omega) (by omega), jup_n _ _ _ (by omega)]
    have m24 : ∀ k, k ≠ 0 → k ≠ 10 → k ≠ 11 → k ≠ 12 → jup m' 24 10 0 24 k = h 24 k := fun k h0 h10 h11 h12 => by
      rw [jup_sn _ _ _ h10, F.2.1 k h11 h12, jup_sn _ _ _ h0, yh 24 (by decide) (by decide) (by decide) (by decide)]
    have mh : ∀ a, (a ≤ 8 ∨ a = 10 ∨ (22 ≤ a ∧ a ≤ 23) ∨ 30 ≤ a) → jup m' 24 10 0 a = h a := fun a ha => by rw [mo a (by omega), yh a (by omega) (by omega) (by omega) (by omega)]
    refine ⟨⟨n, RA_c r ⟨⟨by rw [mh 0 (by omega)], by rw [mh 1 (by omega)], m24 7 (by decide) (by decide) (by decide) (by decide), m24 8 (by decide) (by decide) (by decide) (by decide)⟩, by rw [mh 3 (by omega)]; exact EqB_rf _, by rw [mh 2 (by omega)]; exact ⟨rfl, rfl, rfl, rfl⟩, fun k hk => ?_, mh 10 (by omega), fun k hk => ?_⟩⟩, ⟨0, by omega, ?_, ?_, fun i hi => absurd hi (Nat.not_lt_zero _)⟩, RP_c rp (mh 22 (by omega)) (mh 23 (by omega)) (mh 32 (by omega)) (m24 14 (by decide) (by decide) (by decide) (by decide))⟩
    · rw [mh 4 (by omega), mh 5 (by omega), mh 6 (by omega), mh 7 (by omega), mh 8 (by omega)]; exact ⟨rfl, rfl, rfl, rfl, rfl⟩
    · have s := F.2.2 k (by omega)
      have eb : mb (jup y 24 0 0) k = mb h k := by rw [mb_o _ _ _ (by decide)]; exact mb_e (yh 25 (by decide) (by decide) (by decide) (by decide)) k
      have j : ∀ a, 25 ≤ a → jup y 24 0 0 a = h a := fun a ha => by rw [jup_n _ _ _ (by omega)]; exact yh a (by omega) (by omega) (by omega) (by omega)
      rw [eb, j 26 (by omega), j 27 (by omega), j 28 (by omega), j 29 (by omega)] at s
      refine ⟨?_, ?_, ?_, ?_, ?_, by rw [mh 30 (by omega)]⟩
      · rw [mb_o _ _ _ (by decide)]; exact s.1
      · rw [jup_n _ _ _ (by decide)]; exact s.2.1
      · rw [jup_n _ _ _ (by decide)]; exact s.2.2.1
      · rw [jup_n _ _ _ (by decide)]; exact s.2.2.2.1
      · rw [jup_n _ _ _ (by decide)]; exact s.2.2.2.2
    · rw [mo 18 (by omega), y18]; rfl
    · rw [jup_ss]; rfl
  obtain ⟨m', v', a1, a2, a3⟩ := ref y (fun a ha => yh a (by omega) (by omega) (by omega) (by omega))
  rcases pc with ⟨z0, -, ok0⟩ | ⟨z0, -, -⟩
  · rw [if_pos z0]
    rcases a3 with ⟨-, e1, ok⟩ | ⟨q, -, -⟩
    · obtain ⟨o1, o2, o3, o4, o5, o6, o7, o8, o9, o10⟩ := ok
      have y20 : y 20 = x 20 := yo 20 (by decide)
      have y21 : y 21 = x 21 := yo 21 (by decide)
      have y17 : y 17 = x 17 := yo 17 (by decide)
      -- how the reference goes on, without adopting
      have r2 : ∀ (g : jH) (m2 : jH), f_M_readAll (jup g 24 0 0) = some (1, m2) → f_M_read g = if 150 < m2 29 303 then some (-2, jup m2 24 10 0) else if m2 24 12 = 0 then f_M_read_j72 (jup m2 24 10 0) else if m2 24 12 = (if m2 26 303 = 0 then 54 else 51) then f_M_read_j72 (jup m2 24 10 0) else some (-2, jup m2 24 10 0) := by
        intro g m2 e
        unfold f_M_read
        rw [e, obs]
        show (if (1 : Int) = 0 then _ else jgd (0 ≤ (303 : Int) ∧ (303 : Int) < 304) (if 150 < jup m2 24 10 0 29 303 then f_M_read_j86 (jup m2 24 10 0) else if jup m2 24 10 0 24 12 = 0 then f_M_read_j72 (jup m2 24 10 0) else jgd (0 ≤ (303 : Int) ∧ (303 : Int) < 304) (f_M_read_j69 (jup m2 24 10 0) (if jup m2 24 10 0 26 303 = 0 then 54 else 51) (jup m2 24 10 0 24 12)))) = _
        rw [if_neg (by decide), jgd_pos (by decide), jgd_pos (by decide), jup_n (a := 24) (b := 29) _ _ _ (by decide), jup_n (a := 24) (b := 26) _ _ _ (by decide), jup_sn (j := 12) (k := 10) _ _ _ (by decide)]
        unfold f_M_read_j69 f_M_read_j86 f_M_read_j87
        rw [if_pos rfl]
      have a1' : f_M_readAll (jup y 24 0 0) = some (1, m') := by rw [a1, e1]
      have rd := r2 y m' a1'
      by_cases c1 : 150 < y 20 4
      · rw [if_pos c1]
        refine ⟨-2, y, _, rfl, ?_, keep m' a2⟩
        rw [rd, if_pos (by rw [← o6, ← y20]; exact c1)]
      · rw [if_neg c1]
        have c1' : ¬ 150 < m' 29 303 := by rw [← o6, ← y20]; exact c1
        rw [if_neg c1'] at rd
        have hSy : StR (y 20 1) (y 20 2) (y 20 3) := by rw [y20]; exact o7
        have hBy : BR (y 21) := by rw [y21]; exact o2
        -- the rank that is due
        obtain ⟨u, u1, u2, u3⟩ : ∃ u : Int, f_Rd_isPassedRankDue y = some u ∧ (u = 0 ∨ u = 1) ∧ (u = 1 ↔ (m' 24 12 = 0 ∨ m' 24 12 = (if m' 26 303 = 0 then 54 else 51))) := by
          rcases o10 with ⟨w1, w2⟩ | ⟨w1, w2⟩
          · refine ⟨1, ?_, Or.inr rfl, fun _ => Or.inl w2, fun _ => rfl⟩
            unfold f_Rd_isPassedRankDue
            rw [y17, if_pos w1]
          · refine ⟨_, pd_ok y hSy.1 (by rw [y17]; omega), ite01 _, ?_⟩
            rw [y17, y20, w1, ← o3]
            have := o7.1
            constructor
            · intro q
              right
              by_cases d : m' 24 12 - 49 = (if x 20 1 = 0 then 5 else 2)
              · split at d <;> split <;> omega
              · rw [if_neg d] at q; omega
            · rintro (q | q)
              · omega
              · rw [if_pos]
                split at q <;> split <;> omega
        rw [u1, obs]
        show ∃ v g m, (if u = 0 then some (-2, y) else (f_X_adoptDraft y).bind _) = some (v, g) ∧ _
        by_cases c2 : u = 0
        · rw [if_pos c2]
          refine ⟨-2, y, _, rfl, ?_, keep m' a2⟩
          have nu : ¬ (m' 24 12 = 0 ∨ m' 24 12 = (if m' 26 303 = 0 then 54 else 51)) := fun q => by have := u3.mpr q; omega
          rw [rd, if_neg (fun q => nu (Or.inl q)), if_neg (fun q => nu (Or.inr q))]
        · rw [if_neg c2]
          have yu := u3.mp (by omega)
          obtain ⟨ad1, ad2⟩ := adX y hBy hSy
          have j72 : ∀ (m2 : jH), (m2 24 12 = 0 ∨ m2 24 12 = (if m2 26 303 = 0 then 54 else 51)) → (if m2 24 12 = 0 then f_M_read_j72 (jup m2 24 10 0) else if m2 24 12 = (if m2 26 303 = 0 then 54 else 51) then f_M_read_j72 (jup m2 24 10 0) else some (-2, jup m2 24 10 0)) = f_M_read_j72 (jup m2 24 10 0) := by
            intro m2 q
            by_cases e : m2 24 12 = 0
            · rw [if_pos e]
            · rw [if_neg e]
              rcases q with q | q
              · exact absurd q e
              · rw [if_pos q]
          have gdm : ∀ m2 : jH, RdOk x m2 → ∃ v, f_M_isGood (jup m2 24 10 0) 303 = some v ∧ (v = 0 ∨ v = 1) ∧ (v = 1 ↔ Gd (y 21) (y 20 1) (y 20 2) (y 20 3)) := by
            intro m2 ok2
            obtain ⟨s1, s2, s3, s4, s5, s6, s7, -, -, -⟩ := ok2
            have e25 : mb (jup m2 24 10 0) 303 = mb m2 303 := mb_o _ _ _ (by decide) _
            have e26 : jup m2 24 10 0 26 = m2 26 := jup_n _ _ _ (by decide)
            have e27 : jup m2 24 10 0 27 = m2 27 := jup_n _ _ _ (by decide)
            have e28 : jup m2 24 10 0 28 = m2 28 := jup_n _ _ _ (by decide)
            obtain ⟨v, v1, v2, v3⟩ := gdM (jup m2 24 10 0) (p := 303) (by decide) (by rw [e25]; exact BR_c s1 s2) (by rw [e26, e27, e28, ← s3, ← s4, ← s5]; exact s7)
            refine ⟨v, v1, v2, v3.trans ?_⟩
            rw [e25, e26, e27, e28, ← s3, ← s4, ← s5, y20, y21]
            exact (Gd_c s1 s2 s7).symm
          by_cases gd : Gd (y 21) (y 20 1) (y 20 2) (y 20 3)
          · obtain ⟨g, w, k1, k2, k3, k4, k5, k6, k7⟩ := ad1 gd
            rw [k1, obs]
            show ∃ v g' m, some (if (1 : Int) = 0 then ((-2 : Int), g) else (0, g)) = some (v, g') ∧ _
            rw [if_neg (by decide)]
            have gk : ∀ a, 24 ≤ a → g a = h a := fun a ha => by rw [k2 a (by omega) (by omega) (by omega) (by omega) (by omega)]; exact yh a (by omega) (by omega) (by omega) (by omega)
            obtain ⟨m2, v2, b1, b2, b3⟩ := ref g gk
            rcases b3 with ⟨-, f1, ok2⟩ | ⟨q, -, -⟩
            · obtain ⟨s1, s2, s3, s4, s5, s6, s7, s8, s9, s10⟩ := id ok2
              have rd2 := r2 g m2 (by rw [b1, f1])
              have due2 : m2 24 12 = 0 ∨ m2 24 12 = (if m2 26 303 = 0 then 54 else 51) := by
                rcases o10 with ⟨w1, w2⟩ | ⟨w1, w2⟩ <;> rcases s10 with ⟨w3, w4⟩ | ⟨w3, w4⟩
                · exact Or.inl w4
                · omega
                · omega
                · right
                  rw [show m2 24 12 = m' 24 12 by omega, ← s3, o3]
                  rcases yu with q | q
                  · omega
                  · exact q
              rw [if_neg (by rw [← s6, o6]; exact c1'), j72 m2 due2] at rd2
              obtain ⟨v, v1, vv, v3⟩ := gdm m2 ok2
              have ev := v3.mpr gd
              have e25 : mb (jup m2 24 10 0) 303 = mb m2 303 := mb_o _ _ _ (by decide) _
              have e26 : jup m2 24 10 0 26 = m2 26 := jup_n _ _ _ (by decide)
              have e27 : jup m2 24 10 0 27 = m2 27 := jup_n _ _ _ (by decide)
              have e28 : jup m2 24 10 0 28 = m2 28 := jup_n _ _ _ (by decide)
              have e29 : jup m2 24 10 0 29 = m2 29 := jup_n _ _ _ (by decide)
              have hm : ∀ a, a ≤ 23 ∨ 31 ≤ a → jup m2 24 10 0 a = g a := fun a ha => by
                rw [jup_n _ _ _ (by omega), b2.1 a (by omega) (by omega) (by omega) (by omega) (by omega) (by omega), jup_n _ _ _ (by omega)]
              obtain ⟨m, n1, n2, n3, n4⟩ := adopt_rel (m0 := jup m2 24 10 0) k2 k3 k4 k5 k6 k7 (G5_of hBy hSy gd) (by rw [y20]; exact o8) (by omega) hm (by rw [e25, y21]; exact s1) (by rw [e26, y20]; exact s3) (by rw [e27, y20]; exact s4) (by rw [e28, y20]; exact s5) (by rw [e29, y20]; exact s6)
              refine ⟨0, g, m, rfl, ?_, ⟨0, n2⟩, ⟨0, by omega, ?_, ?_, fun i hi => absurd hi (Nat.not_lt_zero _)⟩, ?_⟩
              · rw [rd2]
                unfold f_M_read_j72
                rw [v1, obs, if_neg (by omega)]
                unfold f_M_read_j87
                rw [if_neg (by decide), n1, obs]
              · rw [n3 18 (by omega), k2 18 (by decide) (by decide) (by decide) (by decide) (by decide), y18]; rfl
              · rw [n4 10 (by decide) (by decide), jup_ss]; rfl
              · have kk : ∀ a, (22 ≤ a ∧ a ≤ 23) ∨ a = 32 → m a = h a := fun a ha => by rw [n3 a (by omega), k2 a (by omega) (by omega) (by omega) (by omega) (by omega)]; exact yh a (by omega) (by omega) (by omega) (by omega)
                exact RP_c rp (kk 22 (by omega)) (kk 23 (by omega)) (kk 32 (by omega)) (by rw [n4 14 (by decide) (by decide), jup_sn _ _ _ (by decide), b2.2.1 14 (by decide) (by decide), jup_sn _ _ _ (by decide), gk 24 (by omega)])
            · exact absurd z0 q
          · rw [ad2 gd, obs]
            show ∃ v g' m, some (if (0 : Int) = 0 then ((-2 : Int), y) else (0, y)) = some (v, g') ∧ _
            rw [if_pos rfl]
            obtain ⟨v, v1, vv, v3⟩ := gdm m' ⟨o1, o2, o3, o4, o5, o6, o7, o8, o9, o10⟩
            have ev : ¬ v = 1 := fun q => gd (v3.mp q)
            refine ⟨-2, y, _, rfl, ?_, keep m' a2⟩
            rw [rd, j72 m' yu]
            unfold f_M_read_j72
            rw [v1, obs, if_pos (by omega)]
            unfold f_M_read_j86 f_M_read_j87
            rw [if_pos rfl]
    · exact absurd z0 q
  · rw [if_neg z0]
    rcases a3 with ⟨q, -, -⟩ | ⟨-, e1, e2⟩
    · exact absurd q z0
    · refine ⟨z, y, jup m' 24 10 0, rfl, ?_, keep m' a2⟩
      unfold f_M_read
      rw [a1, obs, e1]
      show (if (0 : Int) = 0 then some (jadd (jup m' 24 10 0 24 11) 1, jup m' 24 10 0) else _) = _
      rw [if_pos rfl, jup_sn _ _ _ (by decide), e2]
