/-! lines, mates, the class's own check; typing and printing -/
theorem WM_c {h g : jH} (e25 : g 25 = h 25) (e26 : g 26 = h 26) (e27 : g 27 = h 27) (e28 : g 28 = h 28) (n md f x c : Nat) : WM g n md f x c = WM h n md f x c := by
  unfold WM lgM
  rw [mb_e e25 n, e26, e27, e28]
theorem bh_rel {g g1 : jH} {n md : Nat} (hmd : md < 2) (rg : RG g n) (ra : RA g n) (rr1 : RR g1) (e1 : g1 1 6 = (n : Int)) (ek : ∀ a, 24 ≤ a → g1 a = g a) (F : Nat → Nat) (hF : ∀ c, F c = VM (g 3) (g 2 1) (g 2 2) (g 2 3) md (c % 64) (c / 64 % 64) (c / 4096)) :
    ∃ m, f_M_behindAll (jup g1 24 0 0) (md : Int) = some (((TS (lgX g) F 20480 : Nat) : Int), m) ∧ RR m ∧ jup g1 24 0 0 24 8 = g 24 8 := by
  have e0 : ∀ a, 25 ≤ a → jup g1 24 0 0 a = g a := fun a ha => by rw [jup_n _ _ _ (by omega)]; exact ek a (by omega)
  have e24 : ∀ k, k ≠ 0 → jup g1 24 0 0 24 k = g 24 k := fun k hk => by rw [jup_sn _ _ _ hk, ek 24 (by omega)]
  obtain ⟨p1, p2, p3, p4, p5, p6⟩ := RG_pos rg
  obtain ⟨-, ⟨c1, c2, c3, c4, c5⟩, -, -⟩ := id rg
  have hn := ra.1
  have emb : mb (jup g1 24 0 0) n = mb g n := mb_e (e0 25 (by omega)) n
  obtain ⟨m, b1, b2⟩ := bh_ok (jup g1 24 0 0) (n := n) (md := md) hn (by rw [e24 7 (by decide)]; exact ra.2.2.1) hmd (by rw [emb, e0 26 (by omega), e0 27 (by omega), e0 28 (by omega)]; exact p4) (by rw [e0 29 (by omega), ← c5]; exact ⟨p5, by omega⟩)
  have hW : (fun f => sm (fun x => sm (fun c => WM (jup g1 24 0 0) n md f x c) 5) 64) = fun f => sm (fun x => sm (fun c => WM g n md f x c) 5) 64 := by
    funext f
    congr 1
    funext x
    congr 1
    funext c
    exact WM_c (e0 25 (by omega)) (e0 26 (by omega)) (e0 27 (by omega)) (e0 28 (by omega)) n md f x c
  rw [hW, ← sum_eq g c1 c2 c3 c4 p4 F hF] at b1
  exact ⟨m, b1, RR_fr (RR_0 rr1) (by rw [jup_n _ _ _ (by decide)]; exact e1) (Nat.lt_succ_self n) b2, e24 8 (by decide)⟩
theorem q_lines {h : jH} (hR : RR h) (a : Int) : ∃ v g m, f_X_lines h a = some (v, g) ∧ f_M_lines g a = some (v, m) ∧ RR m := by
  unfold f_X_lines
  by_cases c : h 0 9 = 0
  · rw [if_pos c]
    obtain ⟨⟨n, r⟩, -, -⟩ := id hR
    refine ⟨-1, h, jup h 24 0 0, rfl, ?_, RR_0 hR⟩
    unfold f_M_lines
    rw [jup_sn _ _ _ (by decide), if_pos ((RA_good r).1.mp c)]
  rw [if_neg c]
  have g8' : ¬ jup h 24 0 0 24 8 = 0 := fun q => by
    obtain ⟨⟨n, r⟩, -, -⟩ := id hR
    rw [jup_sn _ _ _ (by decide)] at q
    exact c ((RA_good r).1.mpr q)
  by_cases c1 : a < 0
  · rw [if_pos c1]
    refine ⟨-1, h, jup h 24 0 0, rfl, ?_, RR_0 hR⟩
    unfold f_M_lines
    rw [if_neg g8', if_pos c1]
  rw [if_neg c1]
  by_cases c2 : a ≤ 2
  · rw [if_pos c2]
    by_cases c3 : a = 0
    · rw [if_pos c3]
      refine ⟨1, h, jup h 24 0 0, rfl, ?_, RR_0 hR⟩
      unfold f_M_lines
      rw [if_neg g8', if_neg c1, if_pos c2, if_pos c3]
    · rw [if_neg c3]
      obtain ⟨g, n, t1, t2, el, rr, ra, rg, e0, e1, ra0, rg0, e2, e3, en⟩ := gather_rel hR c
      have g8 : ¬ jup g 24 0 0 24 8 = 0 := fun q => by
        have := (RA_good ra0).1.mpr q
        rw [jup_n _ _ _ (by decide), e0] at this
        exact c this
      rw [t1, obs]
      by_cases c4 : a = 1
      · rw [if_pos c4]
        refine ⟨_, g, jup g 24 0 0, rfl, ?_, RR_0 rr⟩
        unfold f_M_lines
        rw [if_neg g8, if_neg c1, if_pos c2, if_neg c3, if_pos c4, ra0.2.2.1, mo_ok _ (by have := ra0.1; omega) (RG_pos rg0).2.2.1, obs, en]
      · rw [if_neg c4]
        obtain ⟨p1, p2, p3, p4, p5, p6⟩ := RG_pos rg
        have hn := ra.1
        obtain ⟨g', l1, l2⟩ := ln_ok g h (by rw [el]; exact t2) p1 ra.1 ra.2.1 ⟨p5, by omega⟩
        rw [el] at l1
        show ∃ v g' m, f_X_lines_lp48 ((nm (lgX h) : Nat) : Int) _ 30000 0 0 g = _ ∧ _
        rw [l1]
        obtain ⟨m, b1, b2, b3⟩ := bh_rel (md := 0) (by decide) rg ra (RR_wk rr ra.2.1 l2) l2.2.1 (fun a ha => l2.1 a (by omega) (by omega) (by omega)) (Fl g) (fun c => rfl)
        rw [el] at b1
        refine ⟨_, g', m, rfl, ?_, b2⟩
        unfold f_M_lines
        rw [if_neg (by rw [b3]; rw [jup_sn _ _ _ (by decide)] at g8; exact g8), if_neg c1, if_pos c2, if_neg c3, if_neg c4]
        have b1' : f_M_behindAll (jup g' 24 0 0) 0 = some (((TS (lgX h) (Fl g) 20480 : Nat) : Int), m) := b1
        rw [b1', obs]
  · rw [if_neg c2]
    refine ⟨-1, h, jup h 24 0 0, rfl, ?_, RR_0 hR⟩
    unfold f_M_lines
    rw [if_neg g8', if_neg c1, if_neg c2]
theorem q_mates {h : jH} (hR : RR h) : ∃ v g m, f_X_mates h = some (v, g) ∧ f_M_mates g = some (v, m) ∧ RR m := by
  unfold f_X_mates
  by_cases c : h 0 9 = 0
  · rw [if_pos c]
    obtain ⟨⟨n, r⟩, -, -⟩ := id hR
    refine ⟨-1, h, jup h 24 0 0, rfl, ?_, RR_0 hR⟩
    unfold f_M_mates
    rw [jup_sn _ _ _ (by decide), if_pos ((RA_good r).1.mp c)]
  rw [if_neg c]
  obtain ⟨g, n, t1, t2, el, rr, ra, rg, e0, e1, ra0, rg0, e2, e3, en⟩ := gather_rel hR c
  have g8 : ¬ jup g 24 0 0 24 8 = 0 := fun q => by
    have := (RA_good ra0).1.mpr q
    rw [jup_n _ _ _ (by decide), e0] at this
    exact c this
  rw [t1, obs]
  obtain ⟨p1, p2, p3, p4, p5, p6⟩ := RG_pos rg
  have hn := ra.1
  obtain ⟨g', l1, l2⟩ := ma_ok g h (by rw [el]; exact t2) p1 ra.1 ra.2.1 ⟨p5, by omega⟩
  rw [el] at l1
  show ∃ v g' m, f_X_mates_lp25 ((nm (lgX h) : Nat) : Int) _ 30000 0 0 g = _ ∧ _
  rw [l1]
  obtain ⟨m, b1, b2, b3⟩ := bh_rel (md := 1) (by decide) rg ra (RR_wk rr ra.2.1 l2) l2.2.1 (fun a ha => l2.1 a (by omega) (by omega) (by omega)) (Fm g) (fun c => rfl)
  rw [el] at b1
  refine ⟨_, g', m, rfl, ?_, b2⟩
  unfold f_M_mates
  rw [if_neg (by rw [b3]; rw [jup_sn _ _ _ (by decide)] at g8; exact g8)]
  have b1' : f_M_behindAll (jup g' 24 0 0) 1 = some (((TS (lgX h) (Fm g) 20480 : Nat) : Int), m) := b1
  rw [b1', obs]
theorem q_check {h : jH} (hR : RR h) : ∃ v g m, f_X_check h = some (v, g) ∧ f_M_check g = some (v, m) ∧ RR m := by
  unfold f_X_check
  by_cases c : h 0 9 = 0
  · rw [if_pos c]
    obtain ⟨⟨n, r⟩, -, -⟩ := id hR
    refine ⟨-1, h, jup h 24 0 0, rfl, ?_, RR_0 hR⟩
    unfold f_M_check
    rw [jup_sn _ _ _ (by decide), if_pos ((RA_good r).1.mp c)]
  rw [if_neg c]
  obtain ⟨g, n, t1, t2, el, rr, ra, rg, e0, e1, ra0, rg0, e2, e3, en⟩ := gather_rel hR c
  have g8 : ¬ jup g 24 0 0 24 8 = 0 := fun q => by
    have := (RA_good ra0).1.mpr q
    rw [jup_n _ _ _ (by decide), e0] at this
    exact c this
  rw [t1, obs]
  obtain ⟨p1, p2, p3, p4, p5, p6⟩ := RG_pos rg
  have hn := ra.1
  obtain ⟨x, x1, x2, x3, x4, x5, x6, x7⟩ := cf_ok g (r := 20) (o := 2) (by decide) (by decide)
  have y2 : x 2 = g 2 := x2 2 (by decide) (by decide)
  have y3 : x 3 = g 3 := x2 3 (by decide) (by decide)
  have elx : lgX x = lgX h := by rw [← el]; unfold lgX; rw [y2, y3]
  have hTx : Tb 11 x x (lgX x) := by
    refine ⟨fun _ _ _ => rfl, fun d hd => ?_⟩
    rw [x2 (11 + 1 + d) (by omega) (by omega), elx]
    exact t2.2 d hd
  have rrx : RR x := RR_k rr (fun a h1 h2 h3 h4 => x2 a h3 h4)
  have ex1 : x 1 6 = (n : Int) := by rw [x2 1 (by decide) (by decide)]; exact ra.2.1
  show ∃ v g' m, (f_Bd_copyFrom 20 2 g).bind _ = _ ∧ _
  rw [x1, obs]
  obtain ⟨g3, i, k1, k2⟩ := chk_ok x x hTx (by rw [y2, y3]; exact p1) hn ex1 (by rw [y2]; exact ⟨p5, by omega⟩) (by rw [y3]; exact EqB_sym x3) (by rw [y2]; exact x4.symm) (by rw [y2]; exact x5.symm) (by rw [y2]; exact x6.symm) (by rw [y2]; exact x7.symm) (fun l16 h17 => (f_Mt_gather 14 h17).bind fun v18 => some (if ((nm (lgX h) : Nat) : Int) = v18.1 then (1, v18.2) else (0, v18.2)))
  rw [elx, y2] at k1
  have rr3 : RR g3 := RR_wk rrx ex1 k2
  show ∃ v g' m, f_X_check_lp51 ((nm (lgX h) : Nat) : Int) (g 1 6) (g 2 1) (fun l16 h17 => (f_Mt_gather 14 h17).bind fun v18 => some (if ((nm (lgX h) : Nat) : Int) = v18.1 then (1, v18.2) else (0, v18.2))) 30000 0 x = _ ∧ _
  rw [ra.2.1, k1]
  obtain ⟨d1, d2, d3, d4, d5⟩ := k2.2.2.1
  have hPx : PosX x := by unfold PosX; rw [y2, y3]; exact p2
  have hP3 : PosX g3 := by unfold PosX; rw [d2, d3, d4]; exact PosR_c (EqB_sym d1) hPx
  obtain ⟨g4, z1, z2⟩ := gat_ok2 14 g3 (by omega) hP3
  have enm : nm (lgX g3) = nm (lgX h) := by
    rw [← elx]
    refine nm_c (fun f x' c' hf hx => ?_)
    unfold lgX
    rw [d2, d3, d4]
    exact lgl_c d1 (PosR_c (EqB_sym d1) hPx) hf hx
  rw [z1, obs, enm]
  show ∃ v g' m, some (if ((nm (lgX h) : Nat) : Int) = ((nm (lgX h) : Nat) : Int) then ((1 : Int), g4) else (0, g4)) = _ ∧ _
  rw [if_pos rfl]
  have rr4 : RR g4 := RR_k rr3 (fun a h1 h2 h3 h4 => z2.1 a (by omega) (by omega))
  refine ⟨1, g4, jup g4 24 0 0, rfl, ?_, RR_0 rr4⟩
  unfold f_M_check
  have e24 : g4 24 8 = g 24 8 := by
    rw [z2.1 24 (by decide) (by decide), k2.1 24 (by omega) (by decide) (by decide), x2 24 (by decide) (by decide)]
  rw [jup_sn _ _ _ (by decide)] at g8
  rw [jup_sn _ _ _ (by decide), e24, if_neg g8]
theorem RA_same {h h' : jH} (hR : ∃ n, RA h n) (e : ∀ a, (a ≤ 8 ∨ a = 10 ∨ (25 ≤ a ∧ a ≤ 30)) → h' a = h a) (e7 : h' 24 7 = h 24 7) (e8 : h' 24 8 = h 24 8) : ∃ n, RA h' n := by
  obtain ⟨n, r⟩ := hR
  exact ⟨n, RA_c r (AgA_s e e7 e8 n)⟩
theorem q_type {h : jH} (hR : RR h) (w : Int) {c : Int} (hc : ok32 c) : ∃ v g m, f_X_type h w c = some (v, g) ∧ f_M_type g w c = some (v, m) ∧ RR m := by
  obtain ⟨ra, ⟨L, t1, t2, t3, t4⟩, rp⟩ := id hR
  obtain ⟨x1, x2⟩ := tyX h w c t2 t1
  by_cases ok : TyOK w c (L : Int)
  · obtain ⟨g, a1, a2, a3, a4, a5⟩ := x1 ok
    have e24 : g 24 = h 24 := a2 24 (by decide) (by decide)
    obtain ⟨y1, -⟩ := tyM g w c (L := L) (by rw [e24]; exact t3) t1 hc
    obtain ⟨m, b1, b2, b3, b4, b5, b6⟩ := y1 ok
    obtain ⟨o1, o2, o3, o4⟩ := ok
    refine ⟨_, g, m, a1, b1, RA_same (RA_same ra (fun a ha => a2 a (by omega) (by omega)) (by rw [e24]) (by rw [e24])) (fun a ha => b2 a (by omega) (by omega)) (b3 7 (by decide) (by decide)) (b3 8 (by decide) (by decide)), ⟨L + c.toNat, by omega, ?_, ?_, fun i hi => ?_⟩, ?_⟩
    · rw [b2 18 (by decide) (by decide), a3]; omega
    · rw [b4]; omega
    · rw [b2 19 (by decide) (by decide)]
      by_cases d : i < L
      · rw [b5 i d, a4 i d, a2 31 (by decide) (by decide)]; exact t4 i d
      · obtain ⟨j, rfl⟩ : ∃ j, i = L + j := ⟨i - L, by omega⟩
        rw [b6 j (by omega), a5 j (by omega)]
        exact ⟨rfl, o4 _ (by omega)⟩
    · have e1 : g 22 = h 22 := a2 22 (by decide) (by decide)
      have e2 : g 23 = h 23 := a2 23 (by decide) (by decide)
      have e3 : g 32 = h 32 := a2 32 (by decide) (by decide)
      exact RP_c rp (by rw [b2 22 (by decide) (by decide), e1]) (by rw [b2 23 (by decide) (by decide), e2]) (by rw [b2 32 (by decide) (by decide), e3]) (by rw [b3 14 (by decide) (by decide), e24])
  · refine ⟨-1, h, jup h 24 0 0, x2 ok, ?_, RR_0 hR⟩
    exact (tyM h w c (L := L) t3 t1 hc).2 ok
theorem q_print {h : jH} (hR : RR h) : ∃ v g m, f_X_print h = some (v, g) ∧ f_M_print g = some (v, m) ∧ RR m := by
  obtain ⟨⟨n, r⟩, rt, rp⟩ := id hR
  by_cases c : h 0 9 = 0
  · refine ⟨-1, h, jup h 24 0 0, ?_, ?_, RR_0 hR⟩
    · unfold f_X_print; rw [if_pos c]
    · unfold f_M_print; rw [jup_sn _ _ _ (by decide), if_pos ((RA_good r).1.mp c)]
  · obtain ⟨-, q8, rg⟩ := (RA_good r).2.1 c
    obtain ⟨p1, p2, p3, p4, p5, p6⟩ := RG_pos rg
    obtain ⟨-, ⟨c1, c2, c3, c4, c5⟩, -, -⟩ := id rg
    have hn := r.1
    obtain ⟨g, a1, a2, a3⟩ := prX h (b := mb h n) c c1 p4.1.1 c2 c3 c4 c5 p4.1.2.1 (by rw [← c5]; exact p5) (by rw [← c5]; omega)
    have e24 : g 24 = h 24 := a2 24 (by decide) (by decide)
    have emb : mb g n = mb h n := mb_e (a2 25 (by decide) (by decide)) n
    have e26 : g 26 = h 26 := a2 26 (by decide) (by decide)
    have e27 : g 27 = h 27 := a2 27 (by decide) (by decide)
    have e28 : g 28 = h 28 := a2 28 (by decide) (by decide)
    have e29 : g 29 = h 29 := a2 29 (by decide) (by decide)
    obtain ⟨m, b1, b2, b3⟩ := prM g (n := n) (by rw [e24]; omega) (by rw [e24]; exact r.2.2.1) (by omega) (by rw [emb]; exact p4.1.1) (by rw [e26, e27, e28]; exact p4.1.2.1) (by rw [e29, ← c5]; exact p5) (by rw [e29, ← c5]; omega)
    rw [emb, e26, e27, e28, e29] at b1 b3
    have hl := outL_len (mb h n) (h 26 n) (h 27 n) (h 28 n) (h 29 n)
    refine ⟨_, g, m, a1, b1, RA_same (RA_same ⟨n, r⟩ (fun a ha => a2 a (by omega) (by omega)) (by rw [e24]) (by rw [e24])) (fun a ha => b2.1 a (by omega) (by omega)) (b2.2 7 (by decide) (by decide)) (b2.2 8 (by decide) (by decide)), ?_, ⟨(outL (mb h n) (h 26 n) (h 27 n) (h 28 n) (h 29 n)).length, by omega, ?_, b3.1, fun i hi => ?_⟩⟩
    · exact RT_c (RT_c rt (a2 18 (by decide) (by decide)) (a2 19 (by decide) (by decide)) (a2 31 (by decide) (by decide)) (by rw [e24])) (b2.1 18 (by decide) (by decide)) (b2.1 19 (by decide) (by decide)) (b2.1 31 (by decide) (by decide)) (b2.2 10 (by decide) (by decide))
    · rw [b2.1 22 (by decide) (by decide)]; exact a3.1
    · rw [b2.1 23 (by decide) (by decide)]
      have h1 := b3.2 i hi
      have h2 := a3.2 i hi
      rw [h1] at h2
      exact Option.some.inj h2
