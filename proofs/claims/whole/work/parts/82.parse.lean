/-! reading: the count, and all of it -/
def ctR (T : Nat → Int) (L : Nat) : Nat → Nat → Nat → Nat → Nat × Nat × Nat
  | 0, p, c, d => (d, p, c)
  | m + 1, p, c, d => if 48 ≤ ltx T L p ∧ ltx T L p ≤ 57 then ctR T L m (p + 1) (10 * c + (ltx T L p - 48).toNat) (d + 1) else (d, p, c)
theorem p10 : ∀ d : Nat, d ≤ 3 → 10 ^ d ≤ 1000 := by decide
theorem ct_x {T : Nat → Int} {L : Nat} (hT : okT T L) (K : Int → jH → Option (Int × jH)) : ∀ (m p c d : Nat) (h : jH) (n : Nat), m + d = 3 → m < n → TxX h T L → h 17 2 = (p : Int) → p ≤ L → h 20 4 = (c : Int) → c < 10 ^ d →
    ∃ h', f_Rd_takeCount_lp13 K n (d : Int) h = K ((ctR T L m p c d).1 : Int) h' ∧ KpX h h' [4] ∧ h' 17 3 = h 17 3 ∧ h' 17 2 = ((ctR T L m p c d).2.1 : Int) ∧ (ctR T L m p c d).2.1 ≤ L ∧ h' 20 4 = ((ctR T L m p c d).2.2 : Int) ∧ (ctR T L m p c d).2.2 < 1000 ∧ d ≤ (ctR T L m p c d).1 := by
  intro m
  induction m with
  | zero =>
    intro p c d h n h1 h2 tx px hpl hc hb
    obtain ⟨n, rfl⟩ : ∃ n', n = n' + 1 := ⟨n - 1, by omega⟩
    have := p10 d (by omega)
    refine ⟨h, ?_, KpX_0 h _, rfl, px, hpl, hc, ?_, Nat.le_refl _⟩
    · rw [f_Rd_takeCount_lp13, if_pos (by omega)]; rfl
    · show c < 1000; omega
  | succ m ih =>
    intro p c d h n h1 h2 tx px hpl hc hb
    obtain ⟨n, rfl⟩ : ∃ n', n = n' + 1 := ⟨n - 1, by omega⟩
    have hL := hT.1
    have hd := p10 d (by omega)
    unfold ctR
    rw [f_Rd_takeCount_lp13, if_neg (by omega), let_x hT tx px]
    simp only [obs]
    by_cases q : 48 ≤ ltx T L p ∧ ltx T L p ≤ 57
    · rw [if_pos q, if_neg (by omega), if_neg (by omega)]
      have hpL : p < L := lt_pos (T := T) (by omega)
      have e4 : jsub (jadd (jmul 10 (h 20 4)) (ltx T L p)) 48 = ((10 * c + (ltx T L p - 48).toNat : Nat) : Int) := by
        rw [hc, jmul_eq (by omega) (by omega), jadd_eq (by omega) (by omega), jsub_eq (by omega) (by omega)]; omega
      rw [e4, jup_n _ _ _ (by decide), px, jadd_eq (by omega) (by omega), jadd_eq (by omega) (by omega)]
      have k1 : KpX h (jup (jup h 20 4 ((10 * c + (ltx T L p - 48).toNat : Nat) : Int)) 17 2 ((p : Int) + 1)) [4] := KpX_t (KpX_20 h _ (List.mem_cons_self ..)) (KpX_17 _ _ _ _)
      obtain ⟨h', a1, a2, a3, a4, a5, a6, a7, a8⟩ := ih (p + 1) (10 * c + (ltx T L p - 48).toNat) (d + 1) (jup (jup h 20 4 ((10 * c + (ltx T L p - 48).toNat : Nat) : Int)) 17 2 ((p : Int) + 1)) n (by omega) (by omega) (TxX_f tx k1.1) (jup_ss _ _ _ _) (by omega) (by rw [jup_n _ _ _ (by decide), jup_ss]) (by rw [Nat.pow_succ]; omega)
      exact ⟨h', a1, KpX_t k1 a2, by rw [a3, jup_sn _ _ _ (by decide), jup_n _ _ _ (by decide)], a4, a5, a6, a7, by omega⟩
    · rw [if_neg q]
      refine ⟨h, ?_, KpX_0 h _, rfl, px, hpl, hc, ?_, Nat.le_refl _⟩
      · by_cases q1 : ltx T L p < 48
        · rw [if_pos q1]
        · rw [if_neg q1, if_pos (by omega)]
      · show c < 1000; omega
theorem ct_m {T : Nat → Int} {L : Nat} (hT : okT T L) (K : Int → Int → jH → Option (Int × jH)) : ∀ (m p c d : Nat) (h : jH) (n : Nat), m + d = 3 → m < n → TxM h T L → h 24 11 = (p : Int) → p ≤ L → c < 10 ^ d → (d = 0 → ltx T L p ≠ 48) → (0 < d → 0 < c) →
    f_M_readCount_lp4 K n (d : Int) (c : Int) h = K ((ctR T L m p c d).1 : Int) ((ctR T L m p c d).2.2 : Int) (jup h 24 11 ((ctR T L m p c d).2.1 : Int)) := by
  intro m
  induction m with
  | zero =>
    intro p c d h n h1 h2 tm pm hpl hb h3 h4
    obtain ⟨n, rfl⟩ : ∃ n', n = n' + 1 := ⟨n - 1, by omega⟩
    rw [f_M_readCount_lp4, if_pos (by omega)]
    show _ = K (d : Int) (c : Int) (jup h 24 11 (p : Int))
    rw [← pm, jup_id]
  | succ m ih =>
    intro p c d h n h1 h2 tm pm hpl hb h3 h4
    obtain ⟨n, rfl⟩ : ∃ n', n = n' + 1 := ⟨n - 1, by omega⟩
    have hL := hT.1
    have hd := p10 d (by omega)
    have lb : ltm T L p = ltx T L p ∨ (ltm T L p = 0 ∧ ltx T L p = -1) := by
      unfold ltx ltm
      by_cases d : p < L
      · rw [if_pos d, if_pos d]; exact Or.inl rfl
      · rw [if_neg d, if_neg d]; exact Or.inr ⟨rfl, rfl⟩
    unfold ctR
    rw [f_M_readCount_lp4, if_neg (by omega), let_m hT tm pm]
    simp only [obs]
    by_cases q : 48 ≤ ltx T L p ∧ ltx T L p ≤ 57
    · rw [if_pos q, if_neg (by omega), if_neg (by omega)]
      have hpL : p < L := lt_pos (T := T) (by omega)
      have em : ltm T L p = ltx T L p := by omega
      have step : f_M_readCount_j35_4 (f_M_readCount_lp4 K n) K h h (d : Int) (c : Int) = K ((ctR T L m (p + 1) (10 * c + (ltx T L p - 48).toNat) (d + 1)).1 : Int) ((ctR T L m (p + 1) (10 * c + (ltx T L p - 48).toNat) (d + 1)).2.2 : Int) (jup h 24 11 ((ctR T L m (p + 1) (10 * c + (ltx T L p - 48).toNat) (d + 1)).2.1 : Int)) := by
        unfold f_M_readCount_j35_4
        have e4 : jsub (jadd (jmul 10 (c : Int)) (ltm T L p)) 48 = ((10 * c + (ltx T L p - 48).toNat : Nat) : Int) := by
          rw [em, jmul_eq (by omega) (by omega), jadd_eq (by omega) (by omega), jsub_eq (by omega) (by omega)]; omega
        rw [let_m hT tm pm, obs, e4, pm, jadd_eq (by omega) (by omega), jadd_eq (by omega) (by omega)]
        have i1 := ih (p + 1) (10 * c + (ltx T L p - 48).toNat) (d + 1) (jup h 24 11 ((p + 1 : Nat) : Int)) n (by omega) (by omega) (TxM_f tm (FrP_24 h _ (Or.inl rfl))) (jup_ss _ _ _ _) (by omega) (by rw [Nat.pow_succ]; omega) (fun z => by omega) (fun _ => by
          by_cases d0 : d = 0
          · have := h3 d0; omega
          · have := h4 (by omega); omega)
        rw [jup_jup] at i1
        exact i1
      by_cases d0 : d = 0
      · rw [if_pos (by omega)]; exact step
      · have := h4 (by omega)
        rw [if_neg (by omega), if_neg (by omega)]; exact step
    · rw [if_neg q]
      show _ = K (d : Int) (c : Int) (jup h 24 11 (p : Int))
      rw [← pm, jup_id]
      by_cases q1 : ltm T L p < 48
      · rw [if_pos q1]
      · rw [if_neg q1, if_pos (by omega)]
theorem ct_st {T : Nat → Int} {L : Nat} (hT : okT T L) {hX hM : jH} {p : Nat} (tx : TxX hX T L) (tm : TxM hM T L) (px : hX 17 2 = (p : Int)) (pm : hM 24 11 = (p : Int)) (hpl : p ≤ L) (h0 : hX 20 4 = 0) :
    ∃ hX' hM' p' v, p' ≤ L ∧ hX' 17 2 = ((p' : Nat) : Int) ∧ hM' 24 11 = (p' : Int) ∧ KpX hX hX' [4] ∧ hX' 17 3 = hX 17 3 ∧ KpM hM hM' [29] ∧ hM' 24 12 = hM 24 12 ∧ (v = 0 ∨ v = 1) ∧ f_Rd_takeCount hX = some (v, hX') ∧ f_M_readCount hM = some (v, hM') ∧ hX' 20 4 = hM' 29 303 ∧ 0 ≤ hX' 20 4 ∧ hX' 20 4 ≤ 999 := by
  have hL := hT.1
  unfold f_Rd_takeCount f_M_readCount
  rw [take_x hT tx px hpl, obs]
  by_cases c : ltx T L p = 48
  · have hpL := lt_in (by decide) c
    have em : ltm T L p = 48 := (lt_eq (by decide)).mpr c
    rw [if_pos c]
    refine ⟨jup hX 17 2 ((p + 1 : Nat) : Int), jup (jup hM 24 11 ((p + 1 : Nat) : Int)) 29 303 0, p + 1, 1, by omega, jup_ss _ _ _ _, by rw [jup_n _ _ _ (by decide), jup_ss], KpX_17 _ _ _ _, jup_sn _ _ _ (by decide), KpM_t (KpM_24 _ _ (Or.inl rfl) _) (KpM_st _ _ (Or.inr (Or.inr (Or.inr rfl))) (List.mem_cons_self ..)), by rw [jup_n _ _ _ (by decide), jup_sn _ _ _ (by decide)], Or.inr rfl, ?_, ?_, ?_, ?_, ?_⟩
    · show (if (1 : Int) = 0 then _ else _) = _
      rw [if_neg (by decide)]
    · rw [show (1000 : Nat) = 998 + 1 + 1 from rfl, f_M_readCount_lp4, if_neg (by decide), let_m hT tm pm]
      simp only [obs]
      rw [em, if_neg (by decide), if_neg (by decide), if_pos trivial]
      unfold f_M_readCount_j35_4
      rw [let_m hT tm pm, obs, em, pm, show jsub (jadd (jmul 10 0) 48) 48 = 0 by decide, show jadd 0 1 = 1 by decide, jadd_eq (by omega) (by omega)]
      show f_M_readCount_lp4 _ (998 + 1) 1 0 (jup hM 24 11 ((p + 1 : Nat) : Int)) = _
      have fin : f_M_readCount_j64 (jup hM 24 11 ((p + 1 : Nat) : Int)) 1 0 = some (1, jup (jup hM 24 11 ((p + 1 : Nat) : Int)) 29 303 0) := by
        unfold f_M_readCount_j64
        rw [jgd_pos (by decide), if_neg (by decide)]
      rw [f_M_readCount_lp4, if_neg (by decide), let_m hT (TxM_f tm (FrP_24 hM _ (Or.inl rfl))) (jup_ss _ _ _ _)]
      simp only [obs]
      by_cases q1 : ltm T L (p + 1) < 48
      · rw [if_pos q1]; exact fin
      · rw [if_neg q1]
        by_cases q2 : 57 < ltm T L (p + 1)
        · rw [if_pos q2]; exact fin
        · rw [if_neg q2, if_neg (by decide), if_pos (by decide)]; exact fin
    · rw [jup_n _ _ _ (by decide), h0, jup_ss]
    · rw [jup_n _ _ _ (by decide), h0]; decide
    · rw [jup_n _ _ _ (by decide), h0]; decide
  · rw [if_neg c]
    show ∃ hX' hM' p' v, p' ≤ L ∧ _ ∧ _ ∧ _ ∧ _ ∧ _ ∧ _ ∧ _ ∧ (if (0 : Int) = 0 then f_Rd_takeCount_lp13 (fun l7 h8 => f_Rd_takeCount_j77 h8 l7) 1000 0 hX else _) = _ ∧ _
    rw [if_pos rfl]
    obtain ⟨x', a1, a2, a3, a4, a5, a6, a7, a8⟩ := ct_x hT (fun l7 h8 => f_Rd_takeCount_j77 h8 l7) 3 p 0 0 hX 1000 (by omega) (by omega) tx px hpl h0 (by decide)
    have b1 := ct_m hT (fun l10 l11 h12 => f_M_readCount_j64 h12 l10 l11) 3 p 0 0 hM 1000 (by omega) (by omega) tm pm hpl (by decide) (fun _ => c) (fun z => by omega)
    have a1' : f_Rd_takeCount_lp13 (fun l7 h8 => f_Rd_takeCount_j77 h8 l7) 1000 0 hX = f_Rd_takeCount_j77 x' ((ctR T L 3 p 0 0).1 : Int) := a1
    have b1' : f_M_readCount_lp4 (fun l10 l11 h12 => f_M_readCount_j64 h12 l10 l11) 1000 0 0 hM = f_M_readCount_j64 (jup hM 24 11 ((ctR T L 3 p 0 0).2.1 : Int)) ((ctR T L 3 p 0 0).1 : Int) ((ctR T L 3 p 0 0).2.2 : Int) := b1
    rw [a1', b1']
    unfold f_Rd_takeCount_j77 f_M_readCount_j64
    rw [jgd_pos (by decide)]
    refine ⟨x', jup (jup hM 24 11 ((ctR T L 3 p 0 0).2.1 : Int)) 29 303 ((ctR T L 3 p 0 0).2.2 : Int), (ctR T L 3 p 0 0).2.1, (if (ctR T L 3 p 0 0).1 = 0 then 0 else 1), a5, a4, by rw [jup_n _ _ _ (by decide), jup_ss], a2, a3, KpM_t (KpM_24 _ _ (Or.inl rfl) _) (KpM_st _ _ (Or.inr (Or.inr (Or.inr rfl))) (List.mem_cons_self ..)), by rw [jup_n _ _ _ (by decide), jup_sn _ _ _ (by decide)], by split <;> simp, ?_, ?_, by rw [a6, jup_ss], by omega, by omega⟩
    · by_cases z : (ctR T L 3 p 0 0).1 = 0
      · rw [if_pos (by omega), if_pos z]
      · rw [if_neg (by omega), if_neg z]
    · by_cases z : (ctR T L 3 p 0 0).1 = 0
      · rw [if_pos (by omega), if_pos z]
      · rw [if_neg (by omega), if_neg z]
def RdOk (hX' hM' : jH) : Prop := EqB (hX' 21) (mb hM' 303) ∧ BR (hX' 21) ∧ hX' 20 1 = hM' 26 303 ∧ hX' 20 2 = hM' 27 303 ∧ hX' 20 3 = hM' 28 303 ∧ hX' 20 4 = hM' 29 303 ∧ StR (hX' 20 1) (hX' 20 2) (hX' 20 3) ∧ 0 ≤ hX' 20 4 ∧ hX' 20 4 ≤ 999 ∧ ((hX' 17 3 = -1 ∧ hM' 24 12 = 0) ∨ (hX' 17 3 = hM' 24 12 - 49 ∧ (hM' 24 12 = 51 ∨ hM' 24 12 = 54)))
theorem parse_ok {T : Nat → Int} {L : Nat} (hT : okT T L) {hX hM : jH} (tx : TxX hX T L) (tm : TxM hM T L) :
    ∃ hX' hM' z v, f_Rd_parse hX = some (z, hX') ∧ f_M_readAll hM = some (v, hM') ∧ FrQ hX hX' ∧ FrP hM hM' ∧ ((z = 0 ∧ v = 1 ∧ RdOk hX' hM') ∨ (z ≠ 0 ∧ v = 0 ∧ jadd (hM' 24 11) 1 = z)) := by
  have hL := hT.1
  -- a failure: both stop at the same place
  have bad : ∀ (x m : jH) (p : Nat), p ≤ L → x 17 2 = (p : Int) → m 24 11 = (p : Int) → FrQ hX x → FrP hM m → ∃ hX' hM' z v, f_Rd_parse_j100 x = some (z, hX') ∧ some ((0 : Int), m) = some (v, hM') ∧ FrQ hX hX' ∧ FrP hM hM' ∧ ((z = 0 ∧ v = 1 ∧ RdOk hX' hM') ∨ (z ≠ 0 ∧ v = 0 ∧ jadd (hM' 24 11) 1 = z)) := by
    intro x m p hp px pm fx fm
    refine ⟨x, m, (p : Int) + 1, 0, ?_, rfl, fx, fm, Or.inr ⟨by omega, rfl, ?_⟩⟩
    · unfold f_Rd_parse_j100 f_Rd_parse_j101
      rw [if_pos rfl, px, jadd_eq (by omega) (by omega)]
    · rw [pm, jadd_eq (by omega) (by omega)]
  unfold f_Rd_parse f_M_readAll
  obtain ⟨w, w1, w2, w3, w4, w5, w6, w7⟩ := wp_ok hX 20
  rw [w1, obs]
  generalize hx0 : jup (jup w 17 2 0) 17 3 (-1) = x0
  have f0 : FrQ hX x0 := by
    rw [← hx0]
    intro a h1 h2 h3
    rw [jup_n _ _ _ h1, jup_n _ _ _ h1]; exact w2 a h2 h3
  have p0 : x0 17 2 = ((0 : Nat) : Int) := by rw [← hx0, jup_sn _ _ _ (by decide), jup_ss]; rfl
  have r0 : x0 17 3 = -1 := by rw [← hx0, jup_ss]
  have s0 : x0 20 = w 20 := by rw [← hx0, jup_n _ _ _ (by decide), jup_n _ _ _ (by decide)]
  have b0 : x0 21 = w 21 := by rw [← hx0, jup_n _ _ _ (by decide), jup_n _ _ _ (by decide)]
  obtain ⟨x1, a1, a2, a3, a4, a5, a6, a7⟩ := sqX_ok T L hT 8 0 (fun _ => 0) x0 1000 (by omega) (by omega) (TxX_f tx f0) p0 (by omega) (fun s hs => by rw [b0]; exact w3 s hs) (fun _ _ _ => rfl)
  have a1' : f_Rd_takeSquares x0 = some ((if (sqP T L 8 0 (fun _ => 0)).1 = true then 1 else 0), x1) := a1
  have g0 : FrP hM (jup hM 24 11 0) := FrP_24 hM _ (Or.inl rfl)
  obtain ⟨m1, v1, c1, c2, c3, c4, c5, c6⟩ := sqM_ok T L hT 8 0 0 (fun _ => 0) (jup hM 24 11 0) 1000 (by omega) (by omega) (TxM_f tm g0) (jup_ss _ _ _ _) (by omega) (fun s hs h8 => by omega)
  have c1' : f_M_readSquares (jup hM 24 11 0) = some ((v1 : Int), m1) := c1
  rw [a1', obs, c1', obs]
  generalize hp1 : (sqP T L 8 0 (fun _ => 0)).2.1 = p1 at a5 a6 c3 c4
  have fx1 := FrQ_t f0 a2
  have fm1 := FrP_t g0 c2
  by_cases ok : (sqP T L 8 0 (fun _ => 0)).1 = true
  · have brd := sqP_rng T L 8 0 (fun _ => 0) (fun _ => ⟨by decide, by decide⟩)
    have ax := a7 ok
    obtain ⟨ev, bm⟩ := c5 ok
    rw [if_pos ok, ev]
    show ∃ hX' hM' z v, (if (1 : Int) = 0 then _ else (f_Rd_takeLetter x1 32).bind _) = _ ∧ (if (((64 : Nat) : Int)) < 64 then _ else (f_M_is m1 32).bind _) = _ ∧ _
    rw [if_neg (show ¬ (1 : Int) = 0 by decide), if_neg (show ¬ (((64 : Nat) : Int)) < 64 by decide)]
    -- a space
    rw [take_x hT (TxX_f tx fx1) a5 a6, obs, is_m hT (TxM_f tm fm1) c3 c4 (by decide), obs]
    by_cases sp : ltx T L p1 = 32
    · have l1 := lt_in (by decide) sp
      rw [if_pos sp, if_pos sp]
      show ∃ hX' hM' z v, (if (1 : Int) = 0 then _ else (f_Rd_takeSide (jup x1 17 2 ((p1 + 1 : Nat) : Int))).bind _) = _ ∧ (if (1 : Int) = 0 then _ else (f_M_next (jup m1 24 11 ((p1 + 1 : Nat) : Int))).bind (fun v3 => f_M_readAll_j46 (jup m1 24 11 ((p1 + 1 : Nat) : Int)) (if v3 = 98 then 1 else 0) 303)) = _ ∧ _
      rw [if_neg (show ¬ (1 : Int) = 0 by decide), if_neg (show ¬ (1 : Int) = 0 by decide)]
      have kx2 : KpX x1 (jup x1 17 2 ((p1 + 1 : Nat) : Int)) [] := KpX_17 _ _ _ _
      have km2 : KpM m1 (jup m1 24 11 ((p1 + 1 : Nat) : Int)) [] := KpM_24 _ _ (Or.inl rfl) _
      generalize hx2 : jup x1 17 2 ((p1 + 1 : Nat) : Int) = x2 at kx2
      generalize hm2 : jup m1 24 11 ((p1 + 1 : Nat) : Int) = m2 at km2
      have px2 : x2 17 2 = ((p1 + 1 : Nat) : Int) := by rw [← hx2]; exact jup_ss _ _ _ _
      have pm2 : m2 24 11 = ((p1 + 1 : Nat) : Int) := by rw [← hm2]; exact jup_ss _ _ _ _
      have rx2 : x2 17 3 = -1 := by rw [← hx2, jup_sn _ _ _ (by decide), a4, r0]
      have fx2 := FrQ_t fx1 kx2.1
      have fm2 := FrP_t fm1 km2.1
      obtain ⟨x3, m3, p3, q1, q2, q3, q4, q5, q6, q7⟩ := sd_st hT (TxX_f tx fx2) (TxM_f tm fm2) px2 pm2 (by omega)
      have fx3 := FrQ_t fx2 q4.1
      have fm3 := FrP_t fm2 q6.1
      rcases q7 with ⟨s1, s2, s3, s4⟩ | ⟨s1, s2⟩
      · rw [s1, obs, s2]
        show ∃ hX' hM' z v, (if (1 : Int) = 0 then _ else (f_Rd_takeLetter x3 32).bind _) = _ ∧ _ ∧ _
        rw [if_neg (show ¬ (1 : Int) = 0 by decide)]
        unfold f_M_readAll_j70
        rw [if_neg (show ¬ (1 : Int) = 0 by decide), take_x hT (TxX_f tx fx3) q2 q1, obs, is_m hT (TxM_f tm fm3) q3 q1 (by decide), obs]
        by_cases sp2 : ltx T L p3 = 32
        · have l3 := lt_in (by decide) sp2
          rw [if_pos sp2, if_pos sp2]
          show ∃ hX' hM' z v, (if (1 : Int) = 0 then _ else (f_Rd_takeRights (jup x3 17 2 ((p3 + 1 : Nat) : Int))).bind _) = _ ∧ (if (1 : Int) = 0 then _ else (f_M_readRights (jup m3 24 11 ((p3 + 1 : Nat) : Int))).bind _) = _ ∧ _
          rw [if_neg (show ¬ (1 : Int) = 0 by decide), if_neg (show ¬ (1 : Int) = 0 by decide)]
          have kx4 : KpX x3 (jup x3 17 2 ((p3 + 1 : Nat) : Int)) [] := KpX_17 _ _ _ _
          have km4 : KpM m3 (jup m3 24 11 ((p3 + 1 : Nat) : Int)) [] := KpM_24 _ _ (Or.inl rfl) _
          generalize hx4 : jup x3 17 2 ((p3 + 1 : Nat) : Int) = x4 at kx4
          generalize hm4 : jup m3 24 11 ((p3 + 1 : Nat) : Int) = m4 at km4
          have px4 : x4 17 2 = ((p3 + 1 : Nat) : Int) := by rw [← hx4]; exact jup_ss _ _ _ _
          have pm4 : m4 24 11 = ((p3 + 1 : Nat) : Int) := by rw [← hm4]; exact jup_ss _ _ _ _
          have rx4 : x4 17 3 = -1 := by rw [← hx4, jup_sn _ _ _ (by decide), q5, rx2]
          have fx4 := FrQ_t fx3 kx4.1
          have fm4 := FrP_t fm3 km4.1
          have nn : ∀ (a : Nat), ¬ a ∈ ([] : List Nat) := fun a => List.not_mem_nil
          have st4' : ∀ k, k ≠ 1 → x4 20 k = w 20 k := fun k hk => by
            rw [kx4.2.2 k (nn k), q4.2.2 k (by simpa using hk), kx2.2.2 k (nn k), a3, s0]
          obtain ⟨x5, m5, p5, v5, t1, t2, t3, t4, t5, t6, t7, t8, t9, t10, t11, t12⟩ := rg_st hT (TxX_f tx fx4) (TxM_f tm fm4) px4 pm4 (by omega) (by rw [st4' 2 (by decide)]; exact w5)
          have fx5 := FrQ_t fx4 t4.1
          have fm5 := FrP_t fm4 t6.1
          rw [t8, obs, t9, obs]
          show ∃ hX' hM' z v, (if v5 = 0 then f_Rd_parse_j100 x5 else (f_Rd_takeLetter x5 32).bind _) = _ ∧ (if v5 = 0 then some (0, m5) else (f_M_is m5 32).bind _) = _ ∧ _
          by_cases e5 : v5 = 0
          · rw [if_pos e5, if_pos e5]; exact bad x5 m5 p5 t1 t2 t3 fx5 fm5
          · rw [if_neg e5, if_neg e5, take_x hT (TxX_f tx fx5) t2 t1, obs, is_m hT (TxM_f tm fm5) t3 t1 (by decide), obs]
            by_cases sp3 : ltx T L p5 = 32
            · have l5 := lt_in (by decide) sp3
              rw [if_pos sp3, if_pos sp3]
              show ∃ hX' hM' z v, (if (1 : Int) = 0 then _ else (f_Rd_takePassed (jup x5 17 2 ((p5 + 1 : Nat) : Int))).bind _) = _ ∧ (if (1 : Int) = 0 then _ else (f_M_readFile (jup m5 24 11 ((p5 + 1 : Nat) : Int))).bind _) = _ ∧ _
              rw [if_neg (show ¬ (1 : Int) = 0 by decide), if_neg (show ¬ (1 : Int) = 0 by decide)]
              have kx6 : KpX x5 (jup x5 17 2 ((p5 + 1 : Nat) : Int)) [] := KpX_17 _ _ _ _
              have km6 : KpM m5 (jup m5 24 11 ((p5 + 1 : Nat) : Int)) [] := KpM_24 _ _ (Or.inl rfl) _
              generalize hx6 : jup x5 17 2 ((p5 + 1 : Nat) : Int) = x6 at kx6
              generalize hm6 : jup m5 24 11 ((p5 + 1 : Nat) : Int) = m6 at km6
              have px6 : x6 17 2 = ((p5 + 1 : Nat) : Int) := by rw [← hx6]; exact jup_ss _ _ _ _
              have pm6 : m6 24 11 = ((p5 + 1 : Nat) : Int) := by rw [← hm6]; exact jup_ss _ _ _ _
              have rx6 : x6 17 3 = -1 := by rw [← hx6, jup_sn _ _ _ (by decide), t5, rx4]
              have fx6 := FrQ_t fx5 kx6.1
              have fm6 := FrP_t fm5 km6.1
              have st6 : ∀ k, k ≠ 2 → x6 20 k = x4 20 k := fun k hk => by
                rw [kx6.2.2 k (nn k), t4.2.2 k (by simpa using hk)]
              obtain ⟨x7, m7, p7, v7, u1, u2, u3, u4, u6, u7, u8, u9, u10⟩ := ps_st hT (TxX_f tx fx6) (TxM_f tm fm6) px6 pm6 (by omega) (by rw [st6 3 (by decide), st4' 3 (by decide)]; exact w6) rx6
              have fx7 := FrQ_t fx6 u4.1
              have fm7 := FrP_t fm6 u6.1
              rw [u8, obs, u9, obs]
              show ∃ hX' hM' z v, (if v7 = 0 then f_Rd_parse_j100 x7 else (f_Rd_takeLetter x7 32).bind _) = _ ∧ (if v7 = 0 then some (0, m7) else (f_M_is m7 32).bind _) = _ ∧ _
              by_cases e7 : v7 = 0
              · rw [if_pos e7, if_pos e7]; exact bad x7 m7 p7 u1 u2 u3 fx7 fm7
              · rw [if_neg e7, if_neg e7, take_x hT (TxX_f tx fx7) u2 u1, obs, is_m hT (TxM_f tm fm7) u3 u1 (by decide), obs]
                obtain ⟨y1, y2, y3, y4⟩ := u10 (by omega)
                by_cases sp4 : ltx T L p7 = 32
                · have l7 := lt_in (by decide) sp4
                  rw [if_pos sp4, if_pos sp4]
                  show ∃ hX' hM' z v, (if (1 : Int) = 0 then _ else (f_Rd_takeCount (jup x7 17 2 ((p7 + 1 : Nat) : Int))).bind _) = _ ∧ (if (1 : Int) = 0 then _ else (f_M_readCount (jup m7 24 11 ((p7 + 1 : Nat) : Int))).bind _) = _ ∧ _
                  rw [if_neg (show ¬ (1 : Int) = 0 by decide), if_neg (show ¬ (1 : Int) = 0 by decide)]
                  have kx8 : KpX x7 (jup x7 17 2 ((p7 + 1 : Nat) : Int)) [] := KpX_17 _ _ _ _
                  have km8 : KpM m7 (jup m7 24 11 ((p7 + 1 : Nat) : Int)) [] := KpM_24 _ _ (Or.inl rfl) _
                  generalize hx8 : jup x7 17 2 ((p7 + 1 : Nat) : Int) = x8 at kx8
                  generalize hm8 : jup m7 24 11 ((p7 + 1 : Nat) : Int) = m8 at km8
                  have px8 : x8 17 2 = ((p7 + 1 : Nat) : Int) := by rw [← hx8]; exact jup_ss _ _ _ _
                  have pm8 : m8 24 11 = ((p7 + 1 : Nat) : Int) := by rw [← hm8]; exact jup_ss _ _ _ _
                  have rx8 : x8 17 3 = x7 17 3 := by rw [← hx8, jup_sn _ _ _ (by decide)]
                  have rm8 : m8 24 12 = m7 24 12 := by rw [← hm8, jup_sn _ _ _ (by decide)]
                  have fx8 := FrQ_t fx7 kx8.1
                  have fm8 := FrP_t fm7 km8.1
                  have st8 : ∀ k, k ≠ 3 → x8 20 k = x6 20 k := fun k hk => by
                    rw [kx8.2.2 k (nn k), u4.2.2 k (by simpa using hk)]
                  obtain ⟨x9, m9, p9, v9, z1, z2, z3, z4, z5, z6, z7, z8, z9, z10, z11, z12, z13⟩ := ct_st hT (TxX_f tx fx8) (TxM_f tm fm8) px8 pm8 (by omega) (by rw [st8 4 (by decide), st6 4 (by decide), st4' 4 (by decide)]; exact w7)
                  have fx9 := FrQ_t fx8 z4.1
                  have fm9 := FrP_t fm8 z6.1
                  rw [z9, obs, z10, obs]
                  show ∃ hX' hM' z v, (if v9 = 0 then f_Rd_parse_j100 x9 else (f_Rd_letter x9).bind fun v14 => if v14 = -1 then f_Rd_parse_j101 x9 1 else f_Rd_parse_j100 x9) = _ ∧ some (if v9 = 0 then (0, m9) else if m9 24 11 = m9 24 10 then (1, m9) else (0, m9)) = _ ∧ _
                  by_cases e9 : v9 = 0
                  · rw [if_pos e9, if_pos e9]; exact bad x9 m9 p9 z1 z2 z3 fx9 fm9
                  · rw [if_neg e9, if_neg e9, let_x hT (TxX_f tx fx9) z2, obs, z3, (TxM_f tm fm9).1]
                    by_cases en : p9 = L
                    · have el : ltx T L p9 = -1 := by unfold ltx; rw [if_neg (by omega)]
                      rw [if_pos el, if_pos (by omega)]
                      unfold f_Rd_parse_j101
                      rw [if_neg (show ¬ (1 : Int) = 0 by decide)]
                      refine ⟨x9, m9, 0, 1, rfl, rfl, fx9, fm9, Or.inl ⟨rfl, rfl, ?_⟩⟩
                      -- what was read
                      have bx : x9 21 = x1 21 := by rw [z4.2.1, kx8.2.1, u4.2.1, kx6.2.1, t4.2.1, kx4.2.1, q4.2.1, kx2.2.1]
                      have bmm : ∀ s, mb m9 303 s = mb m1 303 s := fun s => by rw [z6.2.1, km8.2.1, u6.2.1, km6.2.1, t6.2.1, km4.2.1, q6.2.1, km2.2.1]
                      have n1 : ∀ (a b : Nat), a ≠ b → ¬ a ∈ [b] := fun a b h => by simpa using h
                      have x1' : x9 20 1 = x3 20 1 := by rw [z4.2.2 1 (n1 _ _ (by decide)), st8 1 (by decide), st6 1 (by decide), kx4.2.2 1 (nn 1)]
                      have x2' : x9 20 2 = x5 20 2 := by rw [z4.2.2 2 (n1 _ _ (by decide)), st8 2 (by decide), kx6.2.2 2 (nn 2)]
                      have x3' : x9 20 3 = x7 20 3 := by rw [z4.2.2 3 (n1 _ _ (by decide)), kx8.2.2 3 (nn 3)]
                      have m1' : m9 26 303 = m3 26 303 := by
                        rw [z6.2.2 26 (n1 _ _ (by decide)) (by omega), km8.2.2 26 (nn 26) (by omega), u6.2.2 26 (n1 _ _ (by decide)) (by omega), km6.2.2 26 (nn 26) (by omega), t6.2.2 26 (n1 _ _ (by decide)) (by omega), km4.2.2 26 (nn 26) (by omega)]
                      have m2' : m9 27 303 = m5 27 303 := by
                        rw [z6.2.2 27 (n1 _ _ (by decide)) (by omega), km8.2.2 27 (nn 27) (by omega), u6.2.2 27 (n1 _ _ (by decide)) (by omega), km6.2.2 27 (nn 27) (by omega)]
                      have m3' : m9 28 303 = m7 28 303 := by
                        rw [z6.2.2 28 (n1 _ _ (by decide)) (by omega), km8.2.2 28 (nn 28) (by omega)]
                      refine ⟨fun s hs => ?_, fun s hs => ?_, ?_, ?_, ?_, z11, ⟨?_, ?_, ?_, ?_, ?_⟩, z12, z13, ?_⟩
                      · rw [bx, bmm, ax s hs, bm s hs]
                      · rw [bx, ax s hs]; exact brd s
                      · rw [x1', m1']; exact s3
                      · rw [x2', m2']; exact t10
                      · rw [x3', m3']; exact y1
                      · rw [x1']; exact s4
                      · rw [x2']; exact t11
                      · rw [x2']; exact t12
                      · rw [x3']; exact y2
                      · rw [x3']; exact y3
                      · rw [z5, z7, rx8, rm8]; exact y4
                    · have el : ¬ ltx T L p9 = -1 := by
                        unfold ltx; rw [if_pos (by omega)]
                        have := hT.2 p9 (by omega); omega
                      rw [if_neg el, if_neg (by omega)]
                      exact bad x9 m9 p9 z1 z2 z3 fx9 fm9
                · rw [if_neg sp4, if_neg sp4]
                  show ∃ hX' hM' z v, (if (0 : Int) = 0 then f_Rd_parse_j100 x7 else _) = _ ∧ (if (0 : Int) = 0 then some (0, m7) else _) = _ ∧ _
                  rw [if_pos rfl, if_pos rfl]
                  exact bad x7 m7 p7 u1 u2 u3 fx7 fm7
            · rw [if_neg sp3, if_neg sp3]
              show ∃ hX' hM' z v, (if (0 : Int) = 0 then f_Rd_parse_j100 x5 else _) = _ ∧ (if (0 : Int) = 0 then some (0, m5) else _) = _ ∧ _
              rw [if_pos rfl, if_pos rfl]
              exact bad x5 m5 p5 t1 t2 t3 fx5 fm5
        · rw [if_neg sp2, if_neg sp2]
          show ∃ hX' hM' z v, (if (0 : Int) = 0 then f_Rd_parse_j100 x3 else _) = _ ∧ (if (0 : Int) = 0 then some (0, m3) else _) = _ ∧ _
          rw [if_pos rfl, if_pos rfl]
          exact bad x3 m3 p3 q1 q2 q3 fx3 fm3
      · rw [s1, obs, s2]
        show ∃ hX' hM' z v, (if (0 : Int) = 0 then f_Rd_parse_j100 x3 else _) = _ ∧ _ ∧ _
        rw [if_pos rfl]
        exact bad x3 m3 p3 q1 q2 q3 fx3 fm3
    · rw [if_neg sp, if_neg sp]
      show ∃ hX' hM' z v, (if (0 : Int) = 0 then f_Rd_parse_j100 x1 else _) = _ ∧ (if (0 : Int) = 0 then some (0, m1) else _) = _ ∧ _
      rw [if_pos rfl, if_pos rfl]
      exact bad x1 m1 p1 a6 a5 c3 fx1 fm1
  · have lv := c6 ok
    rw [if_neg ok]
    show ∃ hX' hM' z v, (if (0 : Int) = 0 then f_Rd_parse_j100 x1 else _) = _ ∧ (if (v1 : Int) < 64 then some (0, m1) else _) = _ ∧ _
    rw [if_pos rfl, if_pos (by omega)]
    exact bad x1 m1 p1 a6 a5 c3 fx1 fm1
