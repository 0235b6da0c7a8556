/-! moves made and taken back -/
theorem PW_k {h h' : jH} {k : Nat} {b b' : Nat → Int} {side rights w : Int} (e10 : ∀ q, q < 6 → h' 10 (6 * k + q) = h 10 (6 * k + q)) (hE : EqB b b') (hp : PW h k b side rights w) : PW h' k b' side rights w := by
  unfold PW at *
  refine ⟨fun q hq => ?_, by rw [e10 4 (by decide)]; exact hp.2.1, by rw [e10 5 (by decide)]; exact hp.2.2⟩
  rw [e10 q (by omega), ← pkN_c hE (show 16 * q ≤ 48 by omega) 16 (Nat.le_refl _)]
  exact hp.1 q hq
theorem q_back {h : jH} (hR : RR h) : ∃ v g m, f_X_back h = some (v, g) ∧ f_M_back g = some (v, m) ∧ RR m := by
  obtain ⟨⟨n, r⟩, rt, rp⟩ := id hR
  unfold f_X_back
  by_cases c : h 1 6 = 0
  · rw [if_pos c]
    refine ⟨0, h, jup h 24 0 0, rfl, ?_, RR_0 hR⟩
    unfold f_M_back
    by_cases c8 : jup h 24 0 0 24 8 = 0
    · rw [if_pos c8]
    · rw [if_neg c8, if_pos]
      rw [jup_sn _ _ _ (by decide), r.2.2.1, ← r.2.1]; exact c
  · rw [if_neg c]
    have hn := r.1
    have r1 := r.2.1
    obtain ⟨k, rfl⟩ : ∃ k, n = k + 1 := ⟨n - 1, by omega⟩
    have hg : ¬ h 0 9 = 0 := fun q => by have := (RA_good r).2.2 q; omega
    obtain ⟨q9, q8, rg⟩ := (RA_good r).2.1 hg
    obtain ⟨s1, ⟨c1, c2, c3, c4, c5⟩, s3, s4⟩ := id rg
    obtain ⟨f, x, cc', v, d1, d2, d3, d4, d5, d6, d7, d8, d9⟩ := s3 k (by omega)
    have hG := (s1 k (by omega)).1
    obtain ⟨g, t1, t2, t3, t4⟩ := tb_ok h (b := mb h k) (n := k) (count := h 29 k) d1 d2 d3 hG.1 d4 (by omega) (by rw [r1]; rfl) d5 (EqB_tr c1 d7) (by rw [c2, d8]) d9
    rw [t1, obs]
    have e7 : jup g 24 0 0 24 7 = ((k + 1 : Nat) : Int) := by rw [jup_sn _ _ _ (by decide), t2 24 (by decide) (by decide) (by decide)]; exact r.2.2.1
    have e8 : jup g 24 0 0 24 8 = 1 := by rw [jup_sn _ _ _ (by decide), t2 24 (by decide) (by decide) (by decide)]; exact q8
    refine ⟨1, g, jup (jup g 24 0 0) 24 7 (k : Int), rfl, ?_, ⟨k, ?_⟩, ?_, ?_⟩
    · unfold f_M_back
      rw [e7, e8, if_neg (by decide), if_neg (by omega), jsub_eq (by omega) (by omega), show ((k + 1 : Nat) : Int) - 1 = (k : Int) by omega]
    · generalize hm : jup (jup g 24 0 0) 24 7 (k : Int) = m
      have mg : ∀ a, a ≠ 24 → m a = g a := fun a ha => by rw [← hm, jup_n _ _ _ ha, jup_n _ _ _ ha]
      have mh : ∀ a, a ≠ 1 → a ≠ 2 → a ≠ 3 → a ≠ 24 → m a = h a := fun a h1 h2 h3 h4 => by rw [mg a h4]; exact t2 a h1 h2 h3
      have eb : ∀ j, mb m j = mb h j := fun j => mb_e (mh 25 (by decide) (by decide) (by decide) (by decide)) j
      have e26 : m 26 = h 26 := mh 26 (by decide) (by decide) (by decide) (by decide)
      have e27 : m 27 = h 27 := mh 27 (by decide) (by decide) (by decide) (by decide)
      have e28 : m 28 = h 28 := mh 28 (by decide) (by decide) (by decide) (by decide)
      have e29 : m 29 = h 29 := mh 29 (by decide) (by decide) (by decide) (by decide)
      have e30 : m 30 = h 30 := mh 30 (by decide) (by decide) (by decide) (by decide)
      obtain ⟨u1, u2, u3, u4, u5⟩ := t4
      refine ⟨by omega, ?_, ?_, ?_, ?_, Or.inr ⟨?_, ?_, ?_, ⟨?_, ?_, ?_, ?_, ?_⟩, ?_, ?_⟩⟩
      · rw [mg 1 (by decide)]; exact t3
      · rw [← hm, jup_ss]
      · rw [mg 3 (by decide), eb]; exact u1
      · rw [eb]; exact hG.1.1
      · rw [mh 0 (by decide) (by decide) (by decide) (by decide)]; exact q9
      · rw [← hm, jup_sn _ _ _ (by decide)]; exact e8
      · intro j hj
        rw [eb, e26, e27, e28, e29]
        exact s1 j (by omega)
      · rw [mg 3 (by decide), eb]; exact u1
      · rw [mg 2 (by decide), e26]; exact u2
      · rw [mg 2 (by decide), e27]; exact u3
      · rw [mg 2 (by decide), e28]; exact u4
      · rw [mg 2 (by decide), e29]; exact u5
      · intro j hj
        refine step_c (s1 j (by omega)).1 (s3 j (by omega)) (by rw [eb]; exact EqB_rf _) (by rw [eb]; exact EqB_rf _) (by rw [e26]) (by rw [e26]) (by rw [e27]) (by rw [e28]) (by rw [e29]) ?_
        rw [mh 4 (by decide) (by decide) (by decide) (by decide), mh 5 (by decide) (by decide) (by decide) (by decide), mh 6 (by decide) (by decide) (by decide) (by decide), mh 7 (by decide) (by decide) (by decide) (by decide), mh 8 (by decide) (by decide) (by decide) (by decide)]
        exact ⟨rfl, rfl, rfl, rfl, rfl⟩
      · intro j hj
        rw [eb, e26, e27, e30]
        exact PW_c (mh 10 (by decide) (by decide) (by decide) (by decide)) (EqB_rf _) (s4 j (by omega))
    · have kk : ∀ a, 4 ≤ a → a ≠ 24 → jup (jup g 24 0 0) 24 7 (k : Int) a = h a := fun a ha h24 => by rw [jup_n _ _ _ h24, jup_n _ _ _ h24]; exact t2 a (by omega) (by omega) (by omega)
      exact RT_c rt (kk 18 (by omega) (by decide)) (kk 19 (by omega) (by decide)) (kk 31 (by omega) (by decide)) (by rw [jup_sn _ _ _ (by decide), jup_sn _ _ _ (by decide), t2 24 (by decide) (by decide) (by decide)])
    · have kk : ∀ a, 4 ≤ a → a ≠ 24 → jup (jup g 24 0 0) 24 7 (k : Int) a = h a := fun a ha h24 => by rw [jup_n _ _ _ h24, jup_n _ _ _ h24]; exact t2 a (by omega) (by omega) (by omega)
      exact RP_c rp (kk 22 (by omega) (by decide)) (kk 23 (by omega) (by decide)) (kk 32 (by omega) (by decide)) (by rw [jup_sn _ _ _ (by decide), jup_sn _ _ _ (by decide), t2 24 (by decide) (by decide) (by decide)])
theorem q_make {h : jH} (hR : RR h) {a : Int} (ha : ok32 a) : ∃ v g m, f_X_make h a = some (v, g) ∧ f_M_make g a = some (v, m) ∧ RR m := by
  unfold f_X_make
  by_cases c : h 0 9 = 0
  · rw [if_pos c]
    obtain ⟨⟨n, r⟩, -, -⟩ := id hR
    refine ⟨0, h, jup h 24 0 0, rfl, ?_, RR_0 hR⟩
    unfold f_M_make
    rw [jup_sn _ _ _ (by decide), if_pos ((RA_good r).1.mp c)]
    unfold f_M_make_j64 f_M_make_j65
    rw [if_pos rfl]
  rw [if_neg c]
  obtain ⟨⟨n0, r0⟩, rt, rp⟩ := id hR
  by_cases c3 : h 1 6 < 300
  · rw [if_pos c3]
    obtain ⟨g, n, t1, t2, el, rr, ra, rg, e0, e1, ra0, rg0, e2, e3, en⟩ := gather_rel hR c
    have hn := ra.1
    have hn3 : n < 300 := by have := ra.2.1; rw [e1] at this; omega
    obtain ⟨-, rtg, rpg⟩ := id rr
    have hL : becL (lgX h) := lg_bec _ _ _ _
    obtain ⟨z, z1, z2, z3⟩ := hd_ok h g (lgX h) t2 hL ha
    rw [t1, obs]
    show ∃ v g' m, (f_Mt_holds g a).bind _ = _ ∧ _
    rw [z1, obs]
    have g8 : g 24 8 = 1 := by
      have := (RA_good ra).2.1 (by rw [e0]; exact c)
      exact this.2.1
    -- how the reference begins
    have fm : ∀ e : jH, (∀ b, 24 ≤ b → e b = g b) → f_M_make e a = if 0 ≤ a ∧ a < 20480 then (f_M_isLegal (jup e 24 0 0) (n : Int) (jrem a 64) (jrem (jdiv a 64) 64) (jdiv a 4096)).bind fun v8 => if v8.1 = 0 then some (0, v8.2) else f_M_make_j65 v8.2 a 1 else some (0, jup e 24 0 0) := by
      intro e ek
      unfold f_M_make
      have j8 : jup e 24 0 0 24 8 = 1 := by rw [jup_sn _ _ _ (by decide), ek 24 (by omega)]; exact g8
      have j7 : jup e 24 0 0 24 7 = (n : Int) := by rw [jup_sn _ _ _ (by decide), ek 24 (by omega)]; exact ra.2.2.1
      have nn : ∀ x : jH, f_M_make_j64 x a = some (0, x) := fun x => by unfold f_M_make_j64 f_M_make_j65; rw [if_pos rfl]
      rw [j8, j7, if_neg (by decide), if_neg (by omega)]
      by_cases k1 : a < 0
      · rw [if_pos k1, if_neg (by omega), nn]
      · rw [if_neg k1]
        by_cases k2 : 20480 ≤ a
        · rw [if_pos k2, if_neg (by omega), nn]
        · rw [if_neg k2, if_pos (by omega)]
          rfl
    have dec : ∀ ci : Nat, ci < 20480 → jrem (ci : Int) 64 = ((ci % 64 : Nat) : Int) ∧ jrem (jdiv (ci : Int) 64) 64 = ((ci / 64 % 64 : Nat) : Int) ∧ jdiv (ci : Int) 4096 = ((ci / 4096 : Nat) : Int) := by
      intro ci hci
      refine ⟨?_, ?_, ?_⟩
      · rw [jrem_eq (by omega) (by omega) (by decide) (by decide)]; omega
      · rw [jdiv_eq (by omega) (by omega) (by decide) (by decide), jrem_eq (by omega) (by omega) (by decide) (by decide)]; omega
      · rw [jdiv_eq (by omega) (by omega) (by decide) (by decide)]; omega
    by_cases d : z = 0
    · rw [if_pos d]
      refine ⟨0, g, jup g 24 0 0, rfl, ?_, RR_0 rr⟩
      rw [fm g (fun _ _ => rfl)]
      by_cases k1 : 0 ≤ a ∧ a < 20480
      · rw [if_pos k1]
        obtain ⟨ci, rfl⟩ : ∃ ci : Nat, a = (ci : Int) := ⟨a.toNat, by omega⟩
        have hci : ci < 20480 := by omega
        obtain ⟨b1, b2, b3⟩ := dec ci hci
        obtain ⟨u, u1, u2, u3⟩ := lgl_ok (jup g 24 0 0) (((ci / 4096 : Nat) : Int)) (show n < 304 by omega) (show ci % 64 < 64 by omega) (show ci / 64 % 64 < 64 by omega) (RG_pos rg0).2.2.1
        rw [b1, b2, b3, u1, obs]
        have nl : ¬ u = 1 := fun q => by
          have q1 : lgM (jup g 24 0 0) n (ci % 64) (ci / 64 % 64) (ci / 4096) := u3.mp q
          have q2 := (RG_lg rg0 _ _ _ (by omega) (by omega)).mpr q1
          have e9 : lgX (jup g 24 0 0) = lgX h := by rw [← el]; unfold lgX; rw [jup_n _ _ _ (by decide), jup_n _ _ _ (by decide)]
          rw [e9] at q2
          have := z3.mpr ⟨by omega, by omega, by rw [Int.toNat_natCast]; exact q2⟩
          omega
        show (if u = 0 then some (0, jup g 24 0 0) else _) = _
        rw [if_pos (by omega)]
      · rw [if_neg k1]
    · rw [if_neg d]
      obtain ⟨k1, k2, k3⟩ := z3.mp (by omega)
      obtain ⟨ci, rfl⟩ : ∃ ci : Nat, a = (ci : Int) := ⟨a.toNat, by omega⟩
      have hci : ci < 20480 := by omega
      rw [Int.toNat_natCast] at k3
      have fh : ci % 64 < 64 := by omega
      have xh : ci / 64 % 64 < 64 := by omega
      have ch : ci / 4096 ≤ 4 := by omega
      obtain ⟨b1, b2, b3⟩ := dec ci hci
      generalize ef : ci % 64 = f at *
      generalize ex : ci / 64 % 64 = x at *
      generalize ec : ci / 4096 = cd at *
      have eci : ((ci : Nat) : Int) = code3 f x cd := by rw [← ef, ← ex, ← ec]; exact c3_of hci
      have hlh : lgX h f x cd := by
        have : lgX h (ci % 64) (ci / 64 % 64) (ci / 4096) := k3
        rw [ef, ex, ec] at this
        exact this
      have hlg : lgX g f x cd := by rw [el]; exact hlh
      obtain ⟨p1, p2, p3, p4, p5, p6⟩ := RG_pos rg
      obtain ⟨s1, ⟨c1, c2, c3', c4, c5⟩, s3, s4⟩ := id rg
      obtain ⟨p, v, q1, q2, q3, q4, q5, ⟨w1, w2, w3, w4, w5⟩, q7, q8⟩ := play_ok g fh xh ch p2 hlg (show n < 301 by omega) ra.2.1 ⟨p5, by omega⟩
      have hGn := pres p1 fh xh ch hlg q3
      have hPp : PosX p := by unfold PosX; rw [w2, w3, w4]; exact PosR_c (EqB_sym w1) hGn.1
      obtain ⟨w, y1, y2⟩ := pt_ok p hPp
      obtain ⟨e, i1, i2, i3, i4⟩ := en_ok p (n := n + 1) (w := w) (by omega) hPp.1 hPp.2.1.1 hPp.2.1.2.1 hPp.2.1.2.2.1
      have q1' : f_Gm_play g (ci : Int) = some p := by rw [eci]; exact q1
      show ∃ v g' m, (f_Gm_play g (ci : Int)).bind _ = _ ∧ _
      rw [q1', obs, y1, obs, q5]
      show ∃ v g' m, (f_Ps_enter p ((n : Int) + 1) w).bind _ = _ ∧ _
      have i1' : f_Ps_enter p ((n : Int) + 1) w = some e := i1
      rw [i1', obs]
      have ek : ∀ b, 24 ≤ b → e b = g b := fun b hb => by rw [i2 b (by omega), q2 b (by omega)]
      have m0k : ∀ b, 25 ≤ b → jup e 24 0 0 b = g b := fun b hb => by rw [jup_n _ _ _ (by omega)]; exact ek b (by omega)
      have emb : ∀ j, mb (jup e 24 0 0) j = mb g j := fun j => mb_e (m0k 25 (by omega)) j
      have hP0 : PosM (jup e 24 0 0) n := by
        unfold PosM
        rw [emb, m0k 26 (by omega), m0k 27 (by omega), m0k 28 (by omega)]; exact p3
      have hlm : lgM g n f x cd := (RG_lg rg f x cd fh xh).mp hlg
      have hl0 : lgM (jup e 24 0 0) n f x cd := by
        unfold lgM; rw [emb, m0k 26 (by omega), m0k 27 (by omega), m0k 28 (by omega)]; exact hlm
      obtain ⟨u, u1, u2, u3⟩ := lgl_ok (jup e 24 0 0) ((cd : Nat) : Int) (show n < 304 by omega) fh xh hP0
      have eu := u3.mpr hl0
      obtain ⟨h', v', o1, o2, o3, o4, o5, o6, o7, o8⟩ := go_ok (jup e 24 0 0) (show n + 1 < 304 by omega) fh xh ch hP0 hl0 (by rw [m0k 29 (by omega), ← c5]; exact ⟨p5, by omega⟩)
      rw [emb, m0k 26 (by omega)] at o4 o3
      rw [m0k 28 (by omega)] at o3
      rw [m0k 26 (by omega)] at o5
      rw [m0k 27 (by omega)] at o6
      rw [emb] at o7
      rw [emb, m0k 29 (by omega)] at o8
      rw [c2, c4] at q3
      have evv : v' = v := by rw [vc_of o3, vc_of (vicR_c c1 fh xh q3)]
      subst evv
      have hGm := pres p4 fh xh ch hlm o3
      -- the reference's heap behind
      generalize hyy : jup h' 24 7 ((n : Int) + 1) = y
      have yo : ∀ b, b ≠ 24 → y b = h' b := fun b hb => by rw [← hyy, jup_n _ _ _ hb]
      have ymb : ∀ j, mb y j = mb h' j := fun j => mb_e (yo 25 (by decide)) j
      have hPy : PosM y (n + 1) := by
        unfold PosM
        rw [ymb, yo 26 (by decide), yo 27 (by decide), yo 28 (by decide), o5, o6, o7]
        exact PosR_c (EqB_sym o4) hGm.1
      obtain ⟨w', f1, f2⟩ := ft_ok y (show n + 1 < 304 by omega) hPy
      generalize hmm : jup y 30 (n + 1) w' = m at f1
      have mo : ∀ b, b ≠ 30 → m b = y b := fun b hb => by rw [← hmm, jup_n _ _ _ hb]
      have e7 : h' 24 7 = (n : Int) := by
        rw [o2.1 24 (by decide) (by decide) (by decide) (by decide) (by decide), jup_sn _ _ _ (by decide), ek 24 (by omega)]; exact ra.2.2.1
      have fin : f_M_make e (ci : Int) = some (1, m) := by
        rw [fm e ek, if_pos ⟨by omega, by omega⟩, b1, b2, b3, u1, obs]
        show (if u = 0 then _ else f_M_make_j65 (jup e 24 0 0) (ci : Int) 1) = _
        rw [if_neg (by omega)]
        unfold f_M_make_j65
        have j7 : jup e 24 0 0 24 7 = (n : Int) := by rw [jup_sn _ _ _ (by decide), ek 24 (by omega)]; exact ra.2.2.1
        rw [if_neg (by decide), j7, b1, b2, b3, o1, obs, e7, jadd_eq (by omega) (by omega), hyy]
        have y7 : y 24 7 = ((n + 1 : Nat) : Int) := by rw [← hyy, jup_ss]; rfl
        rw [y7, f1, obs]
      refine ⟨1, e, m, rfl, fin, ⟨n + 1, ?_⟩, ?_, ?_⟩
      · -- the game's part
        have me : ∀ b, b ≤ 23 ∨ 31 ≤ b → m b = e b := fun b hb => by
          rw [mo b (by omega), yo b (by omega), o2.1 b (by omega) (by omega) (by omega) (by omega) (by omega), jup_n _ _ _ (by omega)]
        have mp : ∀ b, b ≤ 9 ∨ (11 ≤ b ∧ b ≤ 23) ∨ 31 ≤ b → m b = p b := fun b hb => by rw [me b (by omega), i2 b (by omega)]
        have mmb : ∀ j, mb m j = mb h' j := fun j => by rw [mb_e (mo 25 (by decide)) j, ymb]
        have m26 : m 26 = h' 26 := by rw [mo 26 (by decide), yo 26 (by decide)]
        have m27 : m 27 = h' 27 := by rw [mo 27 (by decide), yo 27 (by decide)]
        have m28 : m 28 = h' 28 := by rw [mo 28 (by decide), yo 28 (by decide)]
        have m29 : m 29 = h' 29 := by rw [mo 29 (by decide), yo 29 (by decide)]
        have h30 : h' 30 = g 30 := by rw [o2.1 30 (by decide) (by decide) (by decide) (by decide) (by decide)]; exact m0k 30 (by omega)
        have old : ∀ j, j ≤ n → EqB (mb m j) (mb g j) ∧ m 26 j = g 26 j ∧ m 27 j = g 27 j ∧ m 28 j = g 28 j ∧ m 29 j = g 29 j ∧ m 30 j = g 30 j := by
          intro j hj
          have s := o2.2 j (by omega)
          rw [emb, m0k 26 (by omega), m0k 27 (by omega), m0k 28 (by omega), m0k 29 (by omega)] at s
          refine ⟨by rw [mmb]; exact s.1, by rw [m26]; exact s.2.1, by rw [m27]; exact s.2.2.1, by rw [m28]; exact s.2.2.2.1, by rw [m29]; exact s.2.2.2.2, ?_⟩
          rw [← hmm, jup_sn _ _ _ (by omega), yo 30 (by decide), h30]
        have hEn : EqB (p 3) (mb m (n + 1)) := by
          rw [mmb]
          have : EqB (nbv (g 3) (g 2 1) f x cd v') (nbv (mb g n) (g 26 n) f x cd v') := by rw [c2]; exact nbv_c c1 fh
          exact EqB_tr w1 (EqB_tr this (EqB_sym o4))
        have n26 : m 26 (n + 1) = 1 - g 26 n := by rw [m26]; exact o5
        have n27 : m 27 (n + 1) = nr (g 27 n) f x := by rw [m27]; exact o6
        have n28 : m 28 (n + 1) = nf (mb g n) f x := by rw [m28]; exact o7
        have n29 : m 29 (n + 1) = nct (mb g n) f x (g 29 n) := by rw [m29]; exact o8
        have n30 : m 30 (n + 1) = w' := by rw [← hmm, jup_ss]
        have hGmm : G5 (mb m (n + 1)) (m 26 (n + 1)) (m 27 (n + 1)) (m 28 (n + 1)) := by
          rw [n26, n27, n28, mmb]; exact G5_c (EqB_sym o4) hGm
        have x26 : p 2 1 = m 26 (n + 1) := by rw [w2, n26, c2]
        have x27 : p 2 2 = m 27 (n + 1) := by rw [w3, n27, c3']
        have x28 : p 2 3 = m 28 (n + 1) := by rw [w4, n28, nf_c c1 fh]
        have x29 : p 2 4 = m 29 (n + 1) := by rw [w5, n29, nct_c c1 fh xh, c5]
        have ew : w' = w := by
          rw [ymb, yo 26 (by decide), yo 28 (by decide), ← mmb, ← m26, ← m28] at f2
          rw [x26, x28] at y2
          exact bitsP_eq f2 (bitsP_c y2 (fun s hs => tkR_c hEn hPp.1 (by rw [← x26]; exact hPp.2.1.1) hs))
        have m10 : m 10 = e 10 := me 10 (by omega)
        have g10 : p 10 = g 10 := q2 10 (by omega)
        refine ⟨by omega, ?_, ?_, ?_, hGmm.1.1, Or.inr ⟨?_, ?_, fun j hj => ?_, ⟨?_, ?_, ?_, ?_, ?_⟩, fun j hj => ?_, fun j hj => ?_⟩⟩
        · rw [mp 1 (by omega)]; exact q5
        · rw [mo 24 (by decide), ← hyy, jup_ss]; rfl
        · rw [mp 3 (by omega)]; exact hEn
        · rw [mp 0 (by omega), q2 0 (by omega), e0]
          have := (RA_good r0).2.1 c
          exact this.1
        · rw [mo 24 (by decide), ← hyy, jup_sn _ _ _ (by decide), o2.1 24 (by decide) (by decide) (by decide) (by decide) (by decide), jup_sn _ _ _ (by decide), ek 24 (by omega)]; exact g8
        · by_cases jn : j ≤ n
          · obtain ⟨a1, a2, a3, a4, a5, a6⟩ := old j jn
            rw [a2, a3, a4, a5]
            exact ⟨G5_c (EqB_sym a1) (s1 j jn).1, (s1 j jn).2⟩
          · have : j = n + 1 := by omega
            subst this
            refine ⟨hGmm, ?_⟩
            rw [n29]
            have b0 := (s1 n (Nat.le_refl _)).2
            unfold nct
            split <;> omega
        · rw [mp 3 (by omega)]; exact hEn
        · rw [mp 2 (by omega)]; exact x26
        · rw [mp 2 (by omega)]; exact x27
        · rw [mp 2 (by omega)]; exact x28
        · rw [mp 2 (by omega)]; exact x29
        · by_cases jn : j < n
          · obtain ⟨a1, a2, a3, a4, a5, a6⟩ := old j (by omega)
            obtain ⟨a1', a2', a3', a4', a5', a6'⟩ := old (j + 1) (by omega)
            refine step_c (s1 j (by omega)).1 (s3 j jn) a1 a1' a2 a2' a3 a4 a5 ?_
            rw [mp 4 (by omega), mp 5 (by omega), mp 6 (by omega), mp 7 (by omega), mp 8 (by omega)]
            exact q8 j (by omega)
          · have : j = n := by omega
            subst this
            obtain ⟨a1, a2, a3, a4, a5, a6⟩ := old j (Nat.le_refl _)
            have vl : v' < 64 := q4
            refine ⟨f, x, cd, v', fh, xh, ch, ?_, ?_, vl, ?_, ?_, ?_⟩
            · unfold lgM; rw [a2, a3, a4]; exact lgl_c1 (EqB_sym a1) p4.1 fh xh hlm
            · rw [a2, a4]; exact vicR_c (EqB_sym a1) fh xh o3
            · rw [mmb (j + 1), a2]; exact EqB_tr o4 (nbv_c (EqB_sym a1) fh)
            · rw [n26, a2]
            · unfold hist at *
              rw [mp 4 (by omega), mp 5 (by omega), mp 6 (by omega), mp 7 (by omega), mp 8 (by omega), a3, a4, a5, a1 v' vl, ← c1 v' vl, ← c3', ← c4, ← c5]
              exact q7
        · by_cases jn : j ≤ n
          · obtain ⟨a1, a2, a3, a4, a5, a6⟩ := old j jn
            rw [a2, a3, a6]
            exact PW_k (h := g) (fun q hq => by rw [m10, i3 _ (by omega), g10]) (EqB_sym a1) (s4 j jn)
          · have : j = n + 1 := by omega
            subst this
            rw [n30, ew, ← x26, ← x27]
            exact PW_c m10 hEn i4
      · have kk : ∀ b, (18 ≤ b ∧ b ≤ 19) ∨ b = 31 → m b = g b := fun b hb => by
          rw [mo b (by omega), yo b (by omega), o2.1 b (by omega) (by omega) (by omega) (by omega) (by omega), jup_n _ _ _ (by omega), i2 b (by omega), q2 b (by omega)]
        exact RT_c rtg (kk 18 (by omega)) (kk 19 (by omega)) (kk 31 (by omega)) (by rw [mo 24 (by decide), ← hyy, jup_sn _ _ _ (by decide), o2.1 24 (by decide) (by decide) (by decide) (by decide) (by decide), jup_sn _ _ _ (by decide), ek 24 (by omega)])
      · have kk : ∀ b, (22 ≤ b ∧ b ≤ 23) ∨ b = 32 → m b = g b := fun b hb => by
          rw [mo b (by omega), yo b (by omega), o2.1 b (by omega) (by omega) (by omega) (by omega) (by omega), jup_n _ _ _ (by omega), i2 b (by omega), q2 b (by omega)]
        exact RP_c rpg (kk 22 (by omega)) (kk 23 (by omega)) (kk 32 (by omega)) (by rw [mo 24 (by decide), ← hyy, jup_sn _ _ _ (by decide), o2.1 24 (by decide) (by decide) (by decide) (by decide) (by decide), jup_sn _ _ _ (by decide), ek 24 (by omega)])
  · rw [if_neg c3]
    refine ⟨0, h, jup h 24 0 0, rfl, ?_, RR_0 hR⟩
    unfold f_M_make
    obtain ⟨-, q8, -⟩ := (RA_good r0).2.1 c
    have r1 := r0.2.1
    rw [jup_sn _ _ _ (by decide), jup_sn _ _ _ (by decide), q8, if_neg (by decide), r0.2.2.1, if_pos (by omega)]
    unfold f_M_make_j64 f_M_make_j65
    rw [if_pos rfl]
