/-! the calls that set a position: set and read -/
theorem FrR_s (h : jH) {a q : Nat} (v : Int) (ha : a = 26 ∨ a = 27 ∨ a = 28 ∨ a = 29) : FrR h (jup h a q v) q := by
  refine ⟨fun x h1 h2 h3 h4 h5 => jup_n _ _ _ (by omega), fun r hr => ⟨fun y hy => by rw [mb_o _ _ _ (by omega)], ?_, ?_, ?_, ?_⟩⟩
  all_goals
    rcases ha with e | e | e | e <;> subst e
    all_goals first
      | rw [jup_sn _ _ _ hr]
      | rw [jup_n _ _ _ (by decide)]
theorem Gd_c {b b' : Nat → Int} (h : EqB b b') {side rights file : Int} (hB : BR b) (hS : StR side rights file) : Gd b side rights file ↔ Gd b' side rights file :=
  ⟨fun q => Gd_of (G5_c h (G5_of hB hS q)), fun q => Gd_of (G5_c (EqB_sym h) (G5_of (BR_c h hB) hS q))⟩
/-- class and reference adopt the same draft -/
theorem adopt_rel {x g : jH} {m0 : jH} {w : Int} (hg : ∀ a, a ≠ 0 → a ≠ 1 → a ≠ 2 → a ≠ 3 → a ≠ 10 → g a = x a) (g0 : g 0 9 = 1) (g1 : g 1 6 = 0) (gc : curX g (x 21) (x 20 1) (x 20 2) (x 20 3) (x 20 4)) (gp : PW g 0 (x 21) (x 20 1) (x 20 2) w) (gw : bitsP w (tkR (x 21) (x 20 1) (x 20 3))) (hG : G5 (x 21) (x 20 1) (x 20 2) (x 20 3)) (c0 : 0 ≤ x 20 4) (c1 : x 20 4 ≤ 150)
    (hm : ∀ a, a ≤ 23 ∨ 31 ≤ a → m0 a = g a) (hE : EqB (x 21) (mb m0 303)) (e26 : x 20 1 = m0 26 303) (e27 : x 20 2 = m0 27 303) (e28 : x 20 3 = m0 28 303) (e29 : x 20 4 = m0 29 303) :
    ∃ m, f_M_begin m0 = some m ∧ RA m 0 ∧ (∀ a, a ≤ 23 ∨ 31 ≤ a → m a = g a) ∧ (∀ k, k ≠ 7 → k ≠ 8 → m 24 k = m0 24 k) := by
  have hG' : G5 (mb m0 303) (m0 26 303) (m0 27 303) (m0 28 303) := by rw [← e26, ← e27, ← e28]; exact G5_c hE hG
  obtain ⟨m, w', b1, b2, b3, b4, b5, b6, b7, b8, b9, b10, b11, b12⟩ := bgM m0 hG'
  rw [← e26] at b7 b12
  rw [← e27] at b8
  rw [← e28] at b9 b12
  rw [← e29] at b10
  have k : ∀ a, a ≤ 23 → m a = g a := fun a ha => by rw [b2 a (Or.inl ha), hm a (Or.inl ha)]
  refine ⟨m, b1, RA_new (b := x 21) (w := w) (w' := w') (by rw [k 0 (by omega)]; exact g0) (by rw [k 1 (by omega)]; exact g1) ?_ ?_ gw b4 b5 (EqB_tr b6 (EqB_sym hE)) b7 b8 b9 b10 b11 b12 hG c0 c1, fun a ha => by rw [b2 a ha, hm a ha], b3⟩
  · unfold curX; rw [k 2 (by omega), k 3 (by omega)]; exact gc
  · exact PW_c (k 10 (by omega)) (EqB_rf _) gp
theorem q_set {h : jH} (hR : RR h) (a1 a2 a3 a4 : Int) : ∃ v g m, f_X_set h a1 a2 a3 a4 = some (v, g) ∧ f_M_set g a1 a2 a3 a4 = some (v, m) ∧ RR m := by
  have no : ∀ (P : Prop), (¬ (0 ≤ a1 ∧ a1 ≤ 1 ∧ 0 ≤ a2 ∧ a2 ≤ 15 ∧ -1 ≤ a3 ∧ a3 ≤ 7 ∧ 0 ≤ a4 ∧ a4 ≤ 150)) → f_M_set h a1 a2 a3 a4 = some (0, jup h 24 0 0) := by
    intro _ q
    unfold f_M_set
    by_cases c1 : a1 < 0
    · rw [if_pos c1]
    rw [if_neg c1]
    by_cases c2 : 1 < a1
    · rw [if_pos c2]
    rw [if_neg c2]
    by_cases c3 : a2 < 0
    · rw [if_pos c3]
    rw [if_neg c3]
    by_cases c4 : 15 < a2
    · rw [if_pos c4]
    rw [if_neg c4]
    by_cases c5 : a3 < -1
    · rw [if_pos c5]
    rw [if_neg c5]
    by_cases c6 : 7 < a3
    · rw [if_pos c6]
    rw [if_neg c6]
    by_cases c7 : a4 < 0
    · rw [if_pos c7]
    rw [if_neg c7, if_neg (by omega)]
  have bad : (¬ (0 ≤ a1 ∧ a1 ≤ 1 ∧ 0 ≤ a2 ∧ a2 ≤ 15 ∧ -1 ≤ a3 ∧ a3 ≤ 7 ∧ 0 ≤ a4 ∧ a4 ≤ 150)) → ∃ v g m, some ((0 : Int), h) = some (v, g) ∧ f_M_set g a1 a2 a3 a4 = some (v, m) ∧ RR m := fun q => ⟨0, h, _, rfl, no True q, RR_0 hR⟩
  unfold f_X_set f_X_isSide
  rw [obs]
  by_cases cs : a1 = 0 ∨ a1 = 1
  · have es : (if a1 = 0 then (1 : Int) else if a1 = 1 then 1 else 0) = 1 := by
      rcases cs with e | e
      · rw [if_pos e]
      · rw [if_neg (by omega), if_pos e]
    rw [es, if_neg (by decide)]
    by_cases d1 : a2 < 0
    · rw [if_pos d1]; exact bad (by omega)
    rw [if_neg d1]
    by_cases d2 : a2 ≤ 15
    · rw [if_pos d2]
      by_cases d3 : a3 < -1
      · rw [if_pos d3]; exact bad (by omega)
      rw [if_neg d3]
      by_cases d4 : 7 < a3
      · rw [if_pos d4]; exact bad (by omega)
      rw [if_neg d4]
      by_cases d5 : a4 < 0
      · rw [if_pos d5]; exact bad (by omega)
      rw [if_neg d5]
      by_cases d6 : a4 ≤ 150
      · rw [if_pos d6]
        obtain ⟨⟨n, r⟩, rt, rp⟩ := id hR
        have hn := r.1
        obtain ⟨x, x1, x2, x3, -, -, -, -⟩ := cf_ok h (r := 20) (o := 2) (by decide) (by decide)
        rw [x1, obs]
        unfold f_Bd_enterState
        rw [obs]
        generalize hy : jup (jup (jup (jup x 20 1 a1) 20 2 a2) 20 3 a3) 20 4 a4 = y
        have yo : ∀ a, a ≠ 20 → a ≠ 21 → y a = h a := fun a q1 q2 => by rw [← hy, jup_n _ _ _ q1, jup_n _ _ _ q1, jup_n _ _ _ q1, jup_n _ _ _ q1]; exact x2 a q1 q2
        have y21 : EqB (y 21) (h 3) := by rw [← hy, jup_n _ _ _ (by decide), jup_n _ _ _ (by decide), jup_n _ _ _ (by decide), jup_n _ _ _ (by decide)]; exact x3
        have y1 : y 20 1 = a1 := by rw [← hy, jup_sn _ _ _ (by decide), jup_sn _ _ _ (by decide), jup_sn _ _ _ (by decide), jup_ss]
        have y2 : y 20 2 = a2 := by rw [← hy, jup_sn _ _ _ (by decide), jup_sn _ _ _ (by decide), jup_ss]
        have y3 : y 20 3 = a3 := by rw [← hy, jup_sn _ _ _ (by decide), jup_ss]
        have y4 : y 20 4 = a4 := by rw [← hy, jup_ss]
        have hSy : StR (y 20 1) (y 20 2) (y 20 3) := by rw [y1, y2, y3]; exact ⟨cs, by omega, by omega, by omega, by omega⟩
        have hEy : EqB (y 21) (mb h n) := EqB_tr y21 r.2.2.2.1
        have hBy : BR (y 21) := BR_c (EqB_sym hEy) r.2.2.2.2.1
        obtain ⟨ad1, ad2⟩ := adX y hBy hSy
        -- the reference on any heap that has the same cells from 24 on
        have ref : ∀ g : jH, (∀ a, 24 ≤ a → g a = h a) → ∃ m0, (∀ a, a ≤ 23 ∨ 31 ≤ a → m0 a = g a) ∧ (∀ k, k ≠ 0 → m0 24 k = h 24 k) ∧ FrR (jup g 24 0 0) m0 303 ∧ EqB (mb m0 303) (mb h n) ∧ m0 26 303 = a1 ∧ m0 27 303 = a2 ∧ m0 28 303 = a3 ∧ m0 29 303 = a4 ∧ f_M_set g a1 a2 a3 a4 = (f_M_isGood m0 303).bind fun v2 => if v2 = 0 then some (0, m0) else (f_M_begin m0).bind fun v3 => some (1, v3) := by
          intro g gk
          have kb : ∀ a, 25 ≤ a → jup g 24 0 0 a = h a := fun a ha => by rw [jup_n _ _ _ (by omega)]; exact gk a (by omega)
          have emb : mb (jup g 24 0 0) n = mb h n := mb_e (kb 25 (by omega)) n
          obtain ⟨z, z1, z2, z3, -, -, -, -⟩ := cp_ok (jup g 24 0 0) (p := n) (q := 303) (by omega) (by decide) (by rw [emb]; exact r.2.2.2.2.1)
          rw [emb] at z3
          have e7 : jup g 24 0 0 24 7 = (n : Int) := by rw [jup_sn _ _ _ (by decide), gk 24 (by omega)]; exact r.2.2.1
          generalize hm0 : jup (jup (jup (jup z 26 303 a1) 27 303 a2) 28 303 a3) 29 303 a4 = m0
          have F : FrR (jup g 24 0 0) m0 303 := by
            rw [← hm0]
            exact FrR_trans z2 (FrR_trans (FrR_s z a1 (Or.inl rfl)) (FrR_trans (FrR_s _ a2 (Or.inr (Or.inl rfl))) (FrR_trans (FrR_s _ a3 (Or.inr (Or.inr (Or.inl rfl)))) (FrR_s _ a4 (Or.inr (Or.inr (Or.inr rfl)))))))
          refine ⟨m0, fun a ha => ?_, fun k hk => ?_, F, ?_, ?_, ?_, ?_, ?_, ?_⟩
          · rw [F.1 a (by omega) (by omega) (by omega) (by omega) (by omega), jup_n _ _ _ (by omega)]
          · rw [F.1 24 (by decide) (by decide) (by decide) (by decide) (by decide), jup_sn _ _ _ hk, gk 24 (by omega)]
          · rw [← hm0, mb_o _ _ _ (by decide), mb_o _ _ _ (by decide), mb_o _ _ _ (by decide), mb_o _ _ _ (by decide)]; exact z3
          · rw [← hm0, jup_n _ _ _ (by decide), jup_n _ _ _ (by decide), jup_n _ _ _ (by decide), jup_ss]
          · rw [← hm0, jup_n _ _ _ (by decide), jup_n _ _ _ (by decide), jup_ss]
          · rw [← hm0, jup_n _ _ _ (by decide), jup_ss]
          · rw [← hm0, jup_ss]
          · unfold f_M_set
            rw [if_neg (by omega), if_neg (by omega), if_neg d1, if_neg (by omega), if_neg d3, if_neg d4, if_neg d5, if_pos d6, e7]
            have z1' : f_M_copy (jup g 24 0 0) (n : Int) 303 = some z := z1
            rw [z1', obs, jgd_pos (by decide), jgd_pos (by decide), jgd_pos (by decide), jgd_pos (by decide), hm0]
        by_cases gd : Gd (y 21) (y 20 1) (y 20 2) (y 20 3)
        · obtain ⟨g, w, k1, k2, k3, k4, k5, k6, k7⟩ := ad1 gd
          rw [k1, obs]
          show ∃ v g' m, some (if (1 : Int) = 0 then ((0 : Int), g) else (1, g)) = some (v, g') ∧ _
          rw [if_neg (by decide)]
          obtain ⟨m0, f1, f2, f3, f4, f5, f6, f7, f8, f9⟩ := ref g (fun a ha => by rw [k2 a (by omega) (by omega) (by omega) (by omega) (by omega)]; exact yo a (by omega) (by omega))
          obtain ⟨m, b1, b2, b3, b4⟩ := adopt_rel (m0 := m0) k2 k3 k4 k5 k6 k7 (G5_of hBy hSy gd) (by rw [y4]; omega) (by rw [y4]; omega) f1 (EqB_tr hEy (EqB_sym f4)) (by rw [y1, f5]) (by rw [y2, f6]) (by rw [y3, f7]) (by rw [y4, f8])
          obtain ⟨v, v1, v2, v3⟩ := gdM m0 (p := 303) (by decide) (BR_c (EqB_sym f4) r.2.2.2.2.1) (by rw [f5, f6, f7, ← y1, ← y2, ← y3]; exact hSy)
          have gd' : Gd (mb m0 303) (m0 26 303) (m0 27 303) (m0 28 303) := by
            rw [f5, f6, f7, ← y1, ← y2, ← y3]
            exact (Gd_c (EqB_tr hEy (EqB_sym f4)) hBy hSy).mp gd
          have ev := v3.mpr gd'
          have v1' : f_M_isGood m0 303 = some v := v1
          refine ⟨1, g, m, rfl, ?_, ⟨0, b2⟩, ?_, ?_⟩
          · rw [f9, v1', obs, if_neg (by omega), b1, obs]
          · have kk : ∀ a, (18 ≤ a ∧ a ≤ 19) ∨ a = 31 → m a = h a := fun a ha => by rw [b3 a (by omega), k2 a (by omega) (by omega) (by omega) (by omega) (by omega)]; exact yo a (by omega) (by omega)
            exact RT_c rt (kk 18 (by omega)) (kk 19 (by omega)) (kk 31 (by omega)) (by rw [b4 10 (by decide) (by decide), f2 10 (by decide)])
          · have kk : ∀ a, (22 ≤ a ∧ a ≤ 23) ∨ a = 32 → m a = h a := fun a ha => by rw [b3 a (by omega), k2 a (by omega) (by omega) (by omega) (by omega) (by omega)]; exact yo a (by omega) (by omega)
            exact RP_c rp (kk 22 (by omega)) (kk 23 (by omega)) (kk 32 (by omega)) (by rw [b4 14 (by decide) (by decide), f2 14 (by decide)])
        · rw [ad2 gd, obs]
          show ∃ v g' m, some (if (0 : Int) = 0 then ((0 : Int), y) else (1, y)) = some (v, g') ∧ _
          rw [if_pos rfl]
          obtain ⟨m0, f1, f2, f3, f4, f5, f6, f7, f8, f9⟩ := ref y (fun a ha => yo a (by omega) (by omega))
          obtain ⟨v, v1, v2, v3⟩ := gdM m0 (p := 303) (by decide) (BR_c (EqB_sym f4) r.2.2.2.2.1) (by rw [f5, f6, f7, ← y1, ← y2, ← y3]; exact hSy)
          have gd' : ¬ Gd (mb m0 303) (m0 26 303) (m0 27 303) (m0 28 303) := by
            rw [f5, f6, f7, ← y1, ← y2, ← y3]
            exact fun q => gd ((Gd_c (EqB_tr hEy (EqB_sym f4)) hBy hSy).mpr q)
          have ev : ¬ v = 1 := fun q => gd' (v3.mp q)
          have v1' : f_M_isGood m0 303 = some v := v1
          have rry : RR y := RR_k hR (fun a h1 h2 h3 h4 => yo a h3 h4)
          refine ⟨0, y, m0, rfl, ?_, RR_fr (RR_0 rry) (n := n) (by rw [jup_n _ _ _ (by decide), yo 1 (by decide) (by decide)]; exact r.2.1) (by omega) f3⟩
          rw [f9, v1', obs, if_pos (by omega)]
      · rw [if_neg d6]; exact bad (by omega)
    · rw [if_neg d2]; exact bad (by omega)
  · have es : (if a1 = 0 then (1 : Int) else if a1 = 1 then 1 else 0) = 0 := by
      rw [if_neg (by omega), if_neg (by omega)]
    rw [es, if_pos rfl]
    exact bad (by omega)
