/-! the calls that set a position -/
theorem RA_new {m : jH} {b : Nat → Int} {side rights file count w w' : Int} (e0 : m 0 9 = 1) (e1 : m 1 6 = 0) (hc : curX m b side rights file count) (hp : PW m 0 b side rights w) (hw : bitsP w (tkR b side file)) (e7 : m 24 7 = 0) (e8 : m 24 8 = 1) (hE : EqB (mb m 0) b) (s26 : m 26 0 = side) (s27 : m 27 0 = rights) (s28 : m 28 0 = file) (s29 : m 29 0 = count) (s30 : m 30 0 = w') (hw' : bitsP w' (tkR (mb m 0) side file)) (hG : G5 b side rights file) (c0 : 0 ≤ count) (c1 : count ≤ 150) : RA m 0 := by
  have hS := hG.1.2.1.1
  have hBm : BR (mb m 0) := BR_c (EqB_sym hE) hG.1.1
  have ew : w' = w := bitsP_eq hw' (bitsP_c hw (fun s hs => tkR_c (EqB_sym hE) hG.1.1 hS hs))
  refine ⟨by omega, e1, e7, EqB_tr hc.1 (EqB_sym hE), hBm, Or.inr ⟨e0, e8, ?_, ?_, fun k hk => absurd hk (Nat.not_lt_zero _), ?_⟩⟩
  · intro k hk
    have : k = 0 := by omega
    subst this
    rw [s26, s27, s28, s29]
    exact ⟨G5_c (EqB_sym hE) hG, c0, by omega⟩
  · rw [s26, s27, s28, s29]
    exact ⟨EqB_tr hc.1 (EqB_sym hE), hc.2⟩
  · intro k hk
    have : k = 0 := by omega
    subst this
    rw [s26, s27, s30, ew]
    exact PW_c rfl (EqB_sym hE) hp
theorem G5_of {b : Nat → Int} {side rights file : Int} (hB : BR b) (hS : StR side rights file) (h : Gd b side rights file) : G5 b side rights file := ⟨⟨hB, hS, h.1, h.2.1, h.2.2.1, h.2.2.2.1⟩, h.2.2.2.2⟩
theorem Gd_of {b : Nat → Int} {side rights file : Int} (h : G5 b side rights file) : Gd b side rights file := ⟨h.1.2.2.1, h.1.2.2.2.1, h.1.2.2.2.2.1, h.1.2.2.2.2.2, h.2⟩
theorem adX (h : jH) (hB : BR (h 21)) (hS : StR (h 20 1) (h 20 2) (h 20 3)) : (Gd (h 21) (h 20 1) (h 20 2) (h 20 3) → ∃ g w, f_X_adoptDraft h = some (1, g) ∧ (∀ a, a ≠ 0 → a ≠ 1 → a ≠ 2 → a ≠ 3 → a ≠ 10 → g a = h a) ∧ g 0 9 = 1 ∧ g 1 6 = 0 ∧ curX g (h 21) (h 20 1) (h 20 2) (h 20 3) (h 20 4) ∧ PW g 0 (h 21) (h 20 1) (h 20 2) w ∧ bitsP w (tkR (h 21) (h 20 1) (h 20 3))) ∧ (¬ Gd (h 21) (h 20 1) (h 20 2) (h 20 3) → f_X_adoptDraft h = some (0, h)) := by
  obtain ⟨v, v1, v2, v3⟩ := gdX h hB hS
  unfold f_X_adoptDraft
  rw [v1, obs]
  constructor
  · intro hg
    have e1 := v3.mpr hg
    rw [if_neg (by omega)]
    have hG := G5_of hB hS hg
    obtain ⟨x, x1, x2, x3, x4, x5, x6, x7⟩ := cf_ok h (r := 2) (o := 20) (by decide) (by decide)
    rw [x1, obs]
    unfold f_Gm_forget
    rw [obs]
    have y2 : jup x 1 6 0 2 = x 2 := jup_n _ _ _ (by decide)
    have y3 : jup x 1 6 0 3 = x 3 := jup_n _ _ _ (by decide)
    have x3' : EqB (x 3) (h 21) := x3
    have hPy : PosX (jup x 1 6 0) := by unfold PosX; rw [y2, y3, x4, x5, x6]; exact PosR_c (EqB_sym x3') hG.1
    obtain ⟨w, w1, w2⟩ := pt_ok (jup x 1 6 0) hPy
    rw [w1, obs]
    rw [y2, y3, x4, x6] at w2
    have w2' : bitsP w (tkR (h 21) (h 20 1) (h 20 3)) := bitsP_c w2 (fun s hs => tkR_c x3' (BR_c (EqB_sym x3') hB) hS.1 hs)
    obtain ⟨z, z1, z2, z3, z4⟩ := en_ok (jup x 1 6 0) (n := 0) (w := w) (by omega) hPy.1 (by rw [y2, x4]; exact hS.1) (by rw [y2, x5]; exact hS.2.1) (by rw [y2, x5]; exact hS.2.2.1)
    have z1' : f_Ps_enter (jup x 1 6 0) 0 w = some z := z1
    show ∃ g w_1, (f_Ps_enter (jup x 1 6 0) 0 w).bind _ = _ ∧ _
    rw [z1', obs]
    have zz : ∀ a, a ≠ 10 → a ≠ 1 → z a = x a := fun a h1 h2 => by rw [z2 a h1, jup_n _ _ _ h2]
    refine ⟨jup z 0 9 1, w, rfl, fun a a0 a1 a2 a3 a10 => ?_, jup_ss _ _ _ _, ?_, ⟨?_, ?_, ?_, ?_, ?_⟩, ?_, w2'⟩
    · rw [jup_n _ _ _ a0, zz a a10 a1]; exact x2 a a2 a3
    · rw [jup_n _ _ _ (by decide), z2 1 (by decide), jup_ss]
    · rw [jup_n _ _ _ (by decide), zz 3 (by decide) (by decide)]; exact x3'
    · rw [jup_n _ _ _ (by decide), zz 2 (by decide) (by decide)]; exact x4
    · rw [jup_n _ _ _ (by decide), zz 2 (by decide) (by decide)]; exact x5
    · rw [jup_n _ _ _ (by decide), zz 2 (by decide) (by decide)]; exact x6
    · rw [jup_n _ _ _ (by decide), zz 2 (by decide) (by decide)]; exact x7
    · rw [y2, y3, x4, x5] at z4
      exact PW_c (jup_n _ _ _ (by decide)) x3' z4
  · intro hg
    have e1 : ¬ v = 1 := fun q => hg (v3.mp q)
    rw [if_pos (by omega)]
theorem bgM (h : jH) (hG : G5 (mb h 303) (h 26 303) (h 27 303) (h 28 303)) : ∃ m w, f_M_begin h = some m ∧ (∀ a, a ≤ 23 ∨ 31 ≤ a → m a = h a) ∧ (∀ k, k ≠ 7 → k ≠ 8 → m 24 k = h 24 k) ∧ m 24 7 = 0 ∧ m 24 8 = 1 ∧ EqB (mb m 0) (mb h 303) ∧ m 26 0 = h 26 303 ∧ m 27 0 = h 27 303 ∧ m 28 0 = h 28 303 ∧ m 29 0 = h 29 303 ∧ m 30 0 = w ∧ bitsP w (tkR (mb m 0) (h 26 303) (h 28 303)) := by
  obtain ⟨x, x1, x2, x3, x4, x5, x6, x7⟩ := cp_ok h (p := 303) (q := 0) (by decide) (by decide) hG.1.1
  unfold f_M_begin
  have x1' : f_M_copy h 303 0 = some x := x1
  rw [x1', obs]
  generalize hy : jup (jup x 24 7 0) 24 8 1 = y
  have yo : ∀ a, a ≠ 24 → y a = x a := fun a ha => by rw [← hy, jup_n _ _ _ ha, jup_n _ _ _ ha]
  have emb : mb y 0 = mb x 0 := mb_e (yo 25 (by decide)) 0
  have hPy : PosM y 0 := by
    unfold PosM
    rw [emb, yo 26 (by decide), yo 27 (by decide), yo 28 (by decide), x4, x5, x6]
    exact PosR_c (EqB_sym x3) hG.1
  obtain ⟨w, w1, w2⟩ := ft_ok y (p := 0) (by decide) hPy
  have w1' : f_M_findTakers y 0 = some (jup y 30 0 w) := w1
  rw [w1', obs]
  rw [yo 26 (by decide), yo 28 (by decide), x4, x6] at w2
  have mo : ∀ a, a ≠ 30 → jup y 30 0 w a = y a := fun a ha => jup_n _ _ _ ha
  refine ⟨_, w, rfl, fun a ha => ?_, fun k h1 h2 => ?_, ?_, ?_, ?_, ?_, ?_, ?_, ?_, jup_ss _ _ _ _, ?_⟩
  · rw [mo a (by omega), yo a (by omega)]; exact x2.1 a (by omega) (by omega) (by omega) (by omega) (by omega)
  · rw [mo 24 (by decide), ← hy, jup_sn _ _ _ h2, jup_sn _ _ _ h1, x2.1 24 (by decide) (by decide) (by decide) (by decide) (by decide)]
  · rw [mo 24 (by decide), ← hy, jup_sn _ _ _ (by decide), jup_ss]
  · rw [mo 24 (by decide), ← hy, jup_ss]
  · rw [mb_e (mo 25 (by decide)) 0, emb]; exact x3
  · rw [mo 26 (by decide), yo 26 (by decide)]; exact x4
  · rw [mo 27 (by decide), yo 27 (by decide)]; exact x5
  · rw [mo 28 (by decide), yo 28 (by decide)]; exact x6
  · rw [mo 29 (by decide), yo 29 (by decide)]; exact x7
  · rw [mb_e (mo 25 (by decide)) 0]; exact w2
theorem q_clear {h : jH} (hR : RR h) : ∃ g m, f_X_clear h = some g ∧ f_M_clear g = some m ∧ RR m := by
  obtain ⟨-, rt, rp⟩ := hR
  obtain ⟨x, x1, x2, x3, x4, x5, x6, x7⟩ := wp_ok h 2
  unfold f_X_clear f_Gm_forget
  rw [x1, obs, obs]
  generalize hg : jup (jup x 1 6 0) 0 9 0 = g
  have g0 : g 0 9 = 0 := by rw [← hg]; exact jup_ss _ _ _ _
  have g1 : g 1 6 = 0 := by rw [← hg, jup_n _ _ _ (by decide)]; exact jup_ss _ _ _ _
  have go : ∀ a, a ≠ 0 → a ≠ 1 → g a = x a := fun a h0 h1 => by rw [← hg, jup_n _ _ _ h0, jup_n _ _ _ h1]
  have gh : ∀ a, 4 ≤ a → g a = h a := fun a ha => by rw [go a (by omega) (by omega)]; exact x2 a (by omega) (by omega)
  unfold f_M_clear
  generalize hb : jup (jup (jup g 24 0 0) 24 7 0) 24 8 0 = b
  obtain ⟨y, ⟨y1, y2⟩, t⟩ := lp_all (fun n (i : Nat) (y : jH) => f_M_clear_lp17 (fun l3 h4 => jgd (0 ≤ (0 : Int) ∧ (0 : Int) < 304) (jgd (0 ≤ (0 : Int) ∧ (0 : Int) < 304) (jgd (0 ≤ (0 : Int) ∧ (0 : Int) < 304) (jgd (0 ≤ (0 : Int) ∧ (0 : Int) < 304) (some (jup (jup (jup (jup h4 26 0 0) 27 0 0) 28 0 (-1)) 29 0 0)))))) n (i : Int) y) 64 (fun h4 => some (jup (jup (jup (jup h4 26 0 0) 27 0 0) 28 0 (-1)) 29 0 0))
    (fun i y => (∀ a, a ≠ 25 → y a = b a) ∧ ∀ k, k < i → y 25 k = 0) (by
      intro n y hy
      show f_M_clear_lp17 _ (n + 1) _ y = _
      rw [f_M_clear_lp17, if_pos (by omega), jgd_pos (by decide), jgd_pos (by decide), jgd_pos (by decide), jgd_pos (by decide)]) (by
      intro n i y hi hy
      show ∃ s', _ ∧ f_M_clear_lp17 _ (n + 1) _ y = f_M_clear_lp17 _ n ((i + 1 : Nat) : Int) s'
      rw [f_M_clear_lp17, if_neg (by omega), jgd_pos (by omega), Int.toNat_natCast, jadd_eq (by omega) (by omega)]
      refine ⟨_, ⟨fun a ha => ?_, fun k hk => ?_⟩, rfl⟩
      · rw [jup_n _ _ _ ha]; exact hy.1 a ha
      · rw [jup_s]
        by_cases e : k = i
        · rw [if_pos e]
        · rw [if_neg e]; exact hy.2 k (by omega)) b 1000 ⟨fun _ _ => rfl, fun k hk => absurd hk (Nat.not_lt_zero _)⟩ (by omega)
  generalize hm : jup (jup (jup (jup y 26 0 0) 27 0 0) 28 0 (-1)) 29 0 0 = m
  have mo : ∀ a, a ≠ 26 → a ≠ 27 → a ≠ 28 → a ≠ 29 → m a = y a := fun a h1 h2 h3 h4 => by rw [← hm, jup_n _ _ _ h4, jup_n _ _ _ h3, jup_n _ _ _ h2, jup_n _ _ _ h1]
  have bo : ∀ a, a ≠ 24 → b a = g a := fun a ha => by rw [← hb, jup_n _ _ _ ha, jup_n _ _ _ ha, jup_n _ _ _ ha]
  have mg : ∀ a, a ≤ 23 ∨ 30 ≤ a → m a = g a := fun a ha => by rw [mo a (by omega) (by omega) (by omega) (by omega), y1 a (by omega), bo a (by omega)]
  have m24 : m 24 = b 24 := by rw [mo 24 (by decide) (by decide) (by decide) (by decide), y1 24 (by decide)]
  have b24 : ∀ k, k ≠ 0 → k ≠ 7 → k ≠ 8 → b 24 k = g 24 k := fun k h0 h7 h8 => by rw [← hb, jup_sn _ _ _ h8, jup_sn _ _ _ h7, jup_sn _ _ _ h0]
  have mb0 : ∀ s, s < 64 → mb m 0 s = 0 := fun s hs => by
    unfold mb
    rw [mo 25 (by decide) (by decide) (by decide) (by decide)]
    exact y2 _ (by omega)
  refine ⟨g, m, rfl, ?_, ⟨0, by omega, ?_, ?_, fun s hs => ?_, fun s hs => ?_, Or.inl ⟨?_, ?_, rfl⟩⟩, ?_, ?_⟩
  · rw [hb, ← hm]; exact t
  · rw [mg 1 (by omega)]; exact g1
  · rw [m24, ← hb, jup_sn _ _ _ (by decide), jup_ss]; rfl
  · rw [mb0 s hs, mg 3 (by omega), go 3 (by decide) (by decide)]; exact x3 s hs
  · rw [mb0 s hs]; exact ⟨by decide, by decide⟩
  · rw [mg 0 (by omega)]; exact g0
  · rw [m24, ← hb, jup_ss]
  · exact RT_c rt (by rw [mg 18 (by omega), gh 18 (by omega)]) (by rw [mg 19 (by omega), gh 19 (by omega)]) (by rw [mg 31 (by omega), gh 31 (by omega)]) (by rw [m24, b24 10 (by decide) (by decide) (by decide), gh 24 (by omega)])
  · exact RP_c rp (by rw [mg 22 (by omega), gh 22 (by omega)]) (by rw [mg 23 (by omega), gh 23 (by omega)]) (by rw [mg 32 (by omega), gh 32 (by omega)]) (by rw [m24, b24 14 (by decide) (by decide) (by decide), gh 24 (by omega)])
theorem q_put {h : jH} (hR : RR h) (a p : Int) : ∃ v g m, f_X_put h a p = some (v, g) ∧ f_M_put g a p = some (v, m) ∧ RR m := by
  have no : ∀ (P : Prop), (¬ (0 ≤ a ∧ a ≤ 63 ∧ 0 ≤ p ∧ p ≤ 12)) → f_M_put h a p = some (0, jup h 24 0 0) := by
    intro _ q
    unfold f_M_put
    by_cases c1 : a < 0
    · rw [if_pos c1]
    rw [if_neg c1]
    by_cases c2 : 63 < a
    · rw [if_pos c2]
    rw [if_neg c2]
    by_cases c3 : p < 0
    · rw [if_pos c3]
    rw [if_neg c3]
    rw [if_neg (by omega)]
  unfold f_X_put f_X_isSquare
  rw [obs]
  by_cases c1 : a < 0
  · rw [if_pos c1, if_pos rfl]; exact ⟨0, h, _, rfl, no True (by omega), RR_0 hR⟩
  rw [if_neg c1]
  by_cases c2 : 64 ≤ a
  · rw [if_pos c2, if_pos rfl]; exact ⟨0, h, _, rfl, no True (by omega), RR_0 hR⟩
  rw [if_neg c2, if_neg (by decide)]
  by_cases c3 : p < 0
  · rw [if_pos c3]; exact ⟨0, h, _, rfl, no True (by omega), RR_0 hR⟩
  rw [if_neg c3]
  by_cases c4 : p ≤ 12
  · rw [if_pos c4, jgd_pos (by omega)]
    unfold f_Gm_forget
    rw [obs]
    obtain ⟨⟨n, r⟩, rt, rp⟩ := hR
    obtain ⟨s, rfl⟩ : ∃ s : Nat, a = (s : Int) := ⟨a.toNat, by omega⟩
    rw [Int.toNat_natCast]
    generalize hg : jup (jup (jup h 3 s p) 1 6 0) 0 9 0 = g
    have g0 : g 0 9 = 0 := by rw [← hg]; exact jup_ss _ _ _ _
    have g1 : g 1 6 = 0 := by rw [← hg, jup_n _ _ _ (by decide)]; exact jup_ss _ _ _ _
    have g3 : ∀ y, g 3 y = if y = s then p else h 3 y := fun y => by rw [← hg, jup_n _ _ _ (by decide), jup_n _ _ _ (by decide), jup_s]
    have gh : ∀ a, 4 ≤ a → g a = h a := fun a ha => by rw [← hg, jup_n _ _ _ (by omega), jup_n _ _ _ (by omega), jup_n _ _ _ (by omega)]
    have hn := r.1
    have kb : ∀ a, 25 ≤ a → jup g 24 0 0 a = h a := fun a ha => by rw [jup_n _ _ _ (by omega)]; exact gh a (by omega)
    have emb : mb (jup g 24 0 0) n = mb h n := mb_e (kb 25 (by omega)) n
    obtain ⟨x, x1, x2, x3, x4, x5, x6, x7⟩ := cp_ok (jup g 24 0 0) (p := n) (q := 0) (by omega) (by decide) (by rw [emb]; exact r.2.2.2.2.1)
    rw [emb] at x3
    have e7 : jup g 24 0 0 24 7 = (n : Int) := by rw [jup_sn _ _ _ (by decide), gh 24 (by omega)]; exact r.2.2.1
    have fm : f_M_put g (s : Int) p = some (1, jup (jup (jup x 24 7 0) 24 8 0) 25 s p) := by
      unfold f_M_put
      rw [if_neg c1, if_neg (by omega), if_neg c3, if_pos c4, e7]
      have x1' : f_M_copy (jup g 24 0 0) (n : Int) 0 = some x := x1
      rw [x1', obs, i2b (by omega) c4, jgd_pos (by omega), Int.toNat_natCast]
    generalize hm : jup (jup (jup x 24 7 0) 24 8 0) 25 s p = m at fm
    have mo : ∀ a, a ≠ 24 → a ≠ 25 → m a = x a := fun a h1 h2 => by rw [← hm, jup_n _ _ _ h2, jup_n _ _ _ h1, jup_n _ _ _ h1]
    have xo : ∀ a, a ≤ 23 ∨ 30 ≤ a → x a = g a := fun a ha => by rw [x2.1 a (by omega) (by omega) (by omega) (by omega) (by omega), jup_n _ _ _ (by omega)]
    have m24 : ∀ k, k ≠ 0 → k ≠ 7 → k ≠ 8 → m 24 k = h 24 k := fun k h0 h7 h8 => by
      rw [← hm, jup_n _ _ _ (by decide), jup_sn _ _ _ h8, jup_sn _ _ _ h7, x2.1 24 (by decide) (by decide) (by decide) (by decide) (by decide), jup_sn _ _ _ h0, gh 24 (by omega)]
    have mmb : ∀ y, y < 64 → mb m 0 y = if y = s then p else mb h n y := fun y hy => by
      have e : mb m 0 y = if (0 : Nat) = 0 ∧ y = s then p else mb (jup (jup x 24 7 0) 24 8 0) 0 y := by
        rw [← hm]
        have := mb_up (jup (jup x 24 7 0) 24 8 0) (q := 0) (s := s) (r := 0) (y := y) p (by omega) hy
        rw [show 64 * 0 + s = s by omega] at this
        exact this
      rw [e, mb_o _ _ _ (by decide), mb_o _ _ _ (by decide)]
      by_cases d : y = s
      · rw [if_pos ⟨rfl, d⟩, if_pos d]
      · rw [if_neg (fun q => d q.2), if_neg d]; exact x3 y hy
    refine ⟨1, g, m, rfl, fm, ⟨0, by omega, ?_, ?_, fun y hy => ?_, fun y hy => ?_, Or.inl ⟨?_, ?_, rfl⟩⟩, ?_, ?_⟩
    · rw [mo 1 (by decide) (by decide), xo 1 (by omega)]; exact g1
    · rw [← hm, jup_n _ _ _ (by decide), jup_sn _ _ _ (by decide), jup_ss]; rfl
    · rw [mmb y hy, mo 3 (by decide) (by decide), xo 3 (by omega), g3 y, r.2.2.2.1 y hy]
    · rw [mmb y hy]
      by_cases d : y = s
      · rw [if_pos d]; omega
      · rw [if_neg d]; exact r.2.2.2.2.1 y hy
    · rw [mo 0 (by decide) (by decide), xo 0 (by omega)]; exact g0
    · rw [← hm, jup_n _ _ _ (by decide), jup_ss]
    · have k : ∀ a, (18 ≤ a ∧ a ≤ 23) ∨ 31 ≤ a → m a = h a := fun a ha => by rw [mo a (by omega) (by omega), xo a (by omega), gh a (by omega)]
      exact RT_c rt (k 18 (by omega)) (k 19 (by omega)) (k 31 (by omega)) (m24 10 (by decide) (by decide) (by decide))
    · have k : ∀ a, (18 ≤ a ∧ a ≤ 23) ∨ 31 ≤ a → m a = h a := fun a ha => by rw [mo a (by omega) (by omega), xo a (by omega), gh a (by omega)]
      exact RP_c rp (k 22 (by omega)) (k 23 (by omega)) (k 32 (by omega)) (m24 14 (by decide) (by decide) (by decide))
  · rw [if_neg c4]; exact ⟨0, h, _, rfl, no True (by omega), RR_0 hR⟩
