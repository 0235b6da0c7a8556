/-! reading: ranks and squares -/
def gpo (T : Nat → Int) (L fl gp p : Nat) : Prop := gp = 0 ∧ 49 ≤ ltx T L p ∧ (fl : Int) + (ltx T L p - 48) ≤ 8
noncomputable def rkP (T : Nat → Int) (L : Nat) : Nat → Nat → Nat → Nat → (Nat → Int) → Bool × Nat × (Nat → Int)
  | 0, _, _, p, acc => (true, p, acc)
  | k + 1, fl, gp, p, acc => if 8 ≤ fl then (true, p, acc)
    else if pcI (ltx T L p) = 0 then @ite _ (gpo T L fl gp p) (Classical.propDecidable _) (rkP T L k (fl + (ltx T L p - 48).toNat) 1 (p + 1) acc) (false, p, acc)
    else rkP T L k (fl + 1) 0 (p + 1) (fun y => if y = fl then (pcI (ltx T L p) : Int) else acc y)
theorem lt_pos {T : Nat → Int} {L p : Nat} (h : 0 ≤ ltx T L p) : p < L := by
  unfold ltx at h
  by_cases d : p < L
  · exact d
  · rw [if_neg d] at h; omega
theorem pc_in {T : Nat → Int} {L p : Nat} (h : ¬ pcI (ltx T L p) = 0) : p < L := lt_pos (T := T) (by have := pcI_hi h; omega)
theorem rkP_rng (T : Nat → Int) (L : Nat) : ∀ k fl gp p acc, (∀ y, 0 ≤ acc y ∧ acc y ≤ 12) → ∀ y, 0 ≤ (rkP T L k fl gp p acc).2.2 y ∧ (rkP T L k fl gp p acc).2.2 y ≤ 12 := by
  intro k
  induction k with
  | zero => intro fl gp p acc h; unfold rkP; exact h
  | succ k ih =>
    intro fl gp p acc h
    unfold rkP
    by_cases c1 : 8 ≤ fl
    · rw [if_pos c1]; exact h
    · rw [if_neg c1]
      by_cases c2 : pcI (ltx T L p) = 0
      · rw [if_pos c2]
        by_cases c3 : gpo T L fl gp p
        · rw [if_pos c3]; exact ih _ _ _ _ h
        · rw [if_neg c3]; exact h
      · rw [if_neg c2]
        refine ih _ _ _ _ (fun y => ?_)
        have := pcI_le (ltx T L p)
        by_cases e : y = fl
        · rw [if_pos e]; omega
        · rw [if_neg e]; exact h y
def bdX (h : jH) (r : Nat) (acc B : Nat → Int) : Prop := ∀ s, s < 64 → h 21 s = if s / 8 = r then acc (s % 8) else B s
theorem rkX (T : Nat → Int) (L : Nat) (hT : okT T L) {r : Nat} (hr : r < 8) (B : Nat → Int) : ∀ (k fl gp p : Nat) (acc : Nat → Int) (h : jH) (n l3 : Nat), 8 ≤ fl + k → fl ≤ 8 → l3 ≤ fl → k < n → gp ≤ 1 → TxX h T L → h 17 2 = (p : Int) → p ≤ L → bdX h r acc B →
    ∃ h', f_Rd_takeRank_lp7 (r : Int) (fun l24 l25 l26 h27 => some (1, h27)) n (gp : Int) (fl : Int) (l3 : Int) h = some ((if (rkP T L k fl gp p acc).1 = true then 1 else 0), h') ∧ FrQ h h' ∧ h' 20 = h 20 ∧ h' 17 3 = h 17 3 ∧ h' 17 2 = ((rkP T L k fl gp p acc).2.1 : Int) ∧ (rkP T L k fl gp p acc).2.1 ≤ L ∧ bdX h' r (rkP T L k fl gp p acc).2.2 B := by
  intro k
  induction k with
  | zero =>
    intro fl gp p acc h n l3 h1 h2 h3 h4 h5 ht hp hpl hb
    obtain ⟨n, rfl⟩ : ∃ n', n = n' + 1 := ⟨n - 1, by omega⟩
    refine ⟨h, ?_, FrQ_0 h, rfl, rfl, hp, hpl, hb⟩
    rw [f_Rd_takeRank_lp7]
    by_cases c : 8 ≤ (l3 : Int)
    · rw [if_pos c]; rfl
    · rw [if_neg c, if_pos (by omega)]; rfl
  | succ k ih =>
    intro fl gp p acc h n l3 h1 h2 h3 h4 h5 ht hp hpl hb
    obtain ⟨n, rfl⟩ : ∃ n', n = n' + 1 := ⟨n - 1, by omega⟩
    have hL := hT.1
    unfold rkP
    by_cases c1 : 8 ≤ fl
    · rw [if_pos c1]
      refine ⟨h, ?_, FrQ_0 h, rfl, rfl, hp, hpl, hb⟩
      rw [f_Rd_takeRank_lp7]
      by_cases c : 8 ≤ (l3 : Int)
      · rw [if_pos c]; rfl
      · rw [if_neg c, if_pos (by omega)]; rfl
    rw [if_neg c1]
    rw [f_Rd_takeRank_lp7, if_neg (by omega), if_neg (by omega), let_x hT ht hp, obs, pf_x, obs]
    by_cases c2 : pcI (ltx T L p) = 0
    · rw [if_pos c2, if_pos c2, if_pos rfl, obs]
      unfold f_Rd_takeRank_j46_7
      rw [if_pos rfl]
      have lb : -1 ≤ ltx T L p ∧ ltx T L p ≤ 126 := by
        unfold ltx
        by_cases d : p < L
        · rw [if_pos d]; have := hT.2 p d; omega
        · rw [if_neg d]; omega
      rw [jsub_eq (by omega) (by omega)]
      by_cases c3 : gpo T L fl gp p
      · rw [if_pos c3]
        obtain ⟨g1, g2, g3⟩ := c3
        have hpL := lt_pos (show 0 ≤ ltx T L p by omega)
        rw [if_pos (by omega), if_neg (by omega), jadd_eq (by omega) (by omega), if_pos g3]
        unfold f_Rd_takeRank_j101_7 f_Rd_takeRank_j112_7
        rw [if_pos rfl, hp, jadd_eq (by omega) (by omega), jadd_eq (by omega) (by omega), show (fl : Int) + (ltx T L p - 48) = ((fl + (ltx T L p - 48).toNat : Nat) : Int) by omega]
        have F1 : FrQ h (jup h 17 2 ((p : Int) + 1)) := FrQ_up h _ (Or.inl rfl)
        obtain ⟨h', a1, a2, a3, a4, a5, a6, a7⟩ := ih (fl + (ltx T L p - 48).toNat) 1 (p + 1) acc (jup h 17 2 ((p : Int) + 1)) n (l3 + 1) (by omega) (by omega) (by omega) (by omega) (by omega) (TxX_f ht F1) (by rw [jup_ss]; rfl) (by omega) (fun s hs => by rw [jup_n _ _ _ (by decide)]; exact hb s hs)
        exact ⟨h', a1, FrQ_t F1 a2, by rw [a3, jup_n _ _ _ (by decide)], by rw [a4, jup_sn _ _ _ (by decide)], a5, a6, a7⟩
      · rw [if_neg c3]
        refine ⟨h, ?_, FrQ_0 h, rfl, rfl, hp, hpl, hb⟩
        by_cases d1 : (gp : Int) = 0
        · rw [if_pos d1]
          by_cases d2 : ltx T L p - 48 < 1
          · rw [if_pos d2]; rfl
          · rw [if_neg d2, jadd_eq (by omega) (by omega)]
            have : ¬ (fl : Int) + (ltx T L p - 48) ≤ 8 := fun q => c3 ⟨by omega, by omega, q⟩
            rw [if_neg this]; rfl
        · rw [if_neg d1]; rfl
    · rw [if_neg c2, if_neg c2]
      have hpL := pc_in c2
      have hle := pcI_le (ltx T L p)
      rw [if_neg (by omega)]
      unfold f_Rd_takeRank_j46_7
      rw [if_neg (by omega), sq_ok h (by omega) (by omega) (by omega) (by omega), obs, jgd_pos (by omega), show (8 * (r : Int) + (fl : Int)).toNat = 8 * r + fl by omega]
      unfold f_Rd_takeRank_j101_7 f_Rd_takeRank_j112_7
      rw [if_neg (by omega), jup_n _ _ _ (by decide), hp, jadd_eq (by omega) (by omega), jadd_eq (by omega) (by omega), jadd_eq (by omega) (by omega)]
      have F1 : FrQ h (jup (jup h 21 (8 * r + fl) (pcI (ltx T L p) : Int)) 17 2 ((p : Int) + 1)) := FrQ_t (FrQ_up h _ (Or.inr (Or.inr rfl))) (FrQ_up _ _ (Or.inl rfl))
      obtain ⟨h', a1, a2, a3, a4, a5, a6, a7⟩ := ih (fl + 1) 0 (p + 1) (fun y => if y = fl then (pcI (ltx T L p) : Int) else acc y) (jup (jup h 21 (8 * r + fl) (pcI (ltx T L p) : Int)) 17 2 ((p : Int) + 1)) n (l3 + 1) (by omega) (by omega) (by omega) (by omega) (by omega) (TxX_f ht F1) (by rw [jup_ss]; rfl) (by omega) (fun s hs => by
        rw [jup_n _ _ _ (by decide), jup_s]
        by_cases e : s = 8 * r + fl
        · rw [if_pos e, if_pos (show s / 8 = r by omega)]
          show _ = if s % 8 = fl then _ else _
          rw [if_pos (by omega)]
        · rw [if_neg e, hb s hs]
          by_cases e2 : s / 8 = r
          · rw [if_pos e2, if_pos e2]
            show _ = if s % 8 = fl then _ else _
            rw [if_neg (by omega)]
          · rw [if_neg e2, if_neg e2])
      exact ⟨h', a1, FrQ_t F1 a2, by rw [a3, jup_n _ _ _ (by decide), jup_n _ _ _ (by decide)], by rw [a4, jup_sn _ _ _ (by decide), jup_n _ _ _ (by decide)], a5, a6, a7⟩
noncomputable def sqP (T : Nat → Int) (L : Nat) : Nat → Nat → (Nat → Int) → Bool × Nat × (Nat → Int)
  | 0, p, B => (true, p, B)
  | k + 1, p, B => if k ≠ 7 ∧ ltx T L p ≠ 47 then (false, p, B)
    else if (rkP T L 8 0 0 (if k = 7 then p else p + 1) (fun _ => 0)).1 = true then sqP T L k (rkP T L 8 0 0 (if k = 7 then p else p + 1) (fun _ => 0)).2.1 (fun s => if s / 8 = k then (rkP T L 8 0 0 (if k = 7 then p else p + 1) (fun _ => 0)).2.2 (s % 8) else B s)
    else (false, (rkP T L 8 0 0 (if k = 7 then p else p + 1) (fun _ => 0)).2.1, B)
theorem sqP_rng (T : Nat → Int) (L : Nat) : ∀ k p B, (∀ y, 0 ≤ B y ∧ B y ≤ 12) → ∀ y, 0 ≤ (sqP T L k p B).2.2 y ∧ (sqP T L k p B).2.2 y ≤ 12 := by
  intro k
  induction k with
  | zero => intro p B h; unfold sqP; exact h
  | succ k ih =>
    intro p B h
    unfold sqP
    by_cases c1 : k ≠ 7 ∧ ltx T L p ≠ 47
    · rw [if_pos c1]; exact h
    · rw [if_neg c1]
      by_cases c2 : (rkP T L 8 0 0 (if k = 7 then p else p + 1) (fun _ => 0)).1 = true
      · rw [if_pos c2]
        refine ih _ _ (fun y => ?_)
        by_cases e : y / 8 = k
        · rw [if_pos e]; exact rkP_rng T L _ _ _ _ _ (fun _ => ⟨by decide, by decide⟩) _
        · rw [if_neg e]; exact h y
      · rw [if_neg c2]; exact h
theorem sqP_go {T : Nat → Int} {L k p : Nat} {B : Nat → Int} (h : ¬ (k ≠ 7 ∧ ltx T L p ≠ 47)) : sqP T L (k + 1) p B = if (rkP T L 8 0 0 (if k = 7 then p else p + 1) (fun _ => 0)).1 = true then sqP T L k (rkP T L 8 0 0 (if k = 7 then p else p + 1) (fun _ => 0)).2.1 (fun s => if s / 8 = k then (rkP T L 8 0 0 (if k = 7 then p else p + 1) (fun _ => 0)).2.2 (s % 8) else B s) else (false, (rkP T L 8 0 0 (if k = 7 then p else p + 1) (fun _ => 0)).2.1, B) := by
  rw [sqP]; exact if_neg h
theorem sqP_no {T : Nat → Int} {L k p : Nat} {B : Nat → Int} (h : k ≠ 7 ∧ ltx T L p ≠ 47) : sqP T L (k + 1) p B = (false, p, B) := by
  rw [sqP]; exact if_pos h
theorem sqX_ok (T : Nat → Int) (L : Nat) (hT : okT T L) : ∀ (k p : Nat) (B : Nat → Int) (h : jH) (n : Nat), k ≤ 8 → k < n → TxX h T L → h 17 2 = (p : Int) → p ≤ L → EqB (h 21) B → (∀ s, s < 64 → s / 8 < k → B s = 0) →
    ∃ h', f_Rd_takeSquares_lp3 (fun l7 h8 => some (1, h8)) n ((k : Int) - 1) h = some ((if (sqP T L k p B).1 = true then 1 else 0), h') ∧ FrQ h h' ∧ h' 20 = h 20 ∧ h' 17 3 = h 17 3 ∧ h' 17 2 = ((sqP T L k p B).2.1 : Int) ∧ (sqP T L k p B).2.1 ≤ L ∧ ((sqP T L k p B).1 = true → EqB (h' 21) (sqP T L k p B).2.2) := by
  intro k
  induction k with
  | zero =>
    intro p B h n h1 h2 ht hp hpl hb hz
    obtain ⟨n, rfl⟩ : ∃ n', n = n' + 1 := ⟨n - 1, by omega⟩
    refine ⟨h, ?_, FrQ_0 h, rfl, rfl, hp, hpl, fun _ => hb⟩
    rw [f_Rd_takeSquares_lp3, if_pos (by omega)]; rfl
  | succ k ih =>
    intro p B h n h1 h2 ht hp hpl hb hz
    obtain ⟨n, rfl⟩ : ∃ n', n = n' + 1 := ⟨n - 1, by omega⟩
    have hL := hT.1
    have go : ∀ (g h2 : jH) (p1 : Nat), p1 = (if k = 7 then p else p + 1) → FrQ h g → g 20 = h 20 → g 17 3 = h 17 3 → g 21 = h 21 → g 17 2 = (p1 : Int) → p1 ≤ L → ∃ h', f_Rd_takeSquares_j22_3 (f_Rd_takeSquares_lp3 (fun l7 h8 => some (1, h8)) n) (fun l7 h8 => some (1, h8)) h2 g (k : Int) = some ((if (if (rkP T L 8 0 0 (if k = 7 then p else p + 1) (fun _ => 0)).1 = true then sqP T L k (rkP T L 8 0 0 (if k = 7 then p else p + 1) (fun _ => 0)).2.1 (fun s => if s / 8 = k then (rkP T L 8 0 0 (if k = 7 then p else p + 1) (fun _ => 0)).2.2 (s % 8) else B s) else (false, (rkP T L 8 0 0 (if k = 7 then p else p + 1) (fun _ => 0)).2.1, B)).1 = true then 1 else 0), h') ∧ FrQ h h' ∧ h' 20 = h 20 ∧ h' 17 3 = h 17 3 ∧ h' 17 2 = ((if (rkP T L 8 0 0 (if k = 7 then p else p + 1) (fun _ => 0)).1 = true then sqP T L k (rkP T L 8 0 0 (if k = 7 then p else p + 1) (fun _ => 0)).2.1 (fun s => if s / 8 = k then (rkP T L 8 0 0 (if k = 7 then p else p + 1) (fun _ => 0)).2.2 (s % 8) else B s) else (false, (rkP T L 8 0 0 (if k = 7 then p else p + 1) (fun _ => 0)).2.1, B)).2.1 : Int) ∧ (if (rkP T L 8 0 0 (if k = 7 then p else p + 1) (fun _ => 0)).1 = true then sqP T L k (rkP T L 8 0 0 (if k = 7 then p else p + 1) (fun _ => 0)).2.1 (fun s => if s / 8 = k then (rkP T L 8 0 0 (if k = 7 then p else p + 1) (fun _ => 0)).2.2 (s % 8) else B s) else (false, (rkP T L 8 0 0 (if k = 7 then p else p + 1) (fun _ => 0)).2.1, B)).2.1 ≤ L ∧ ((if (rkP T L 8 0 0 (if k = 7 then p else p + 1) (fun _ => 0)).1 = true then sqP T L k (rkP T L 8 0 0 (if k = 7 then p else p + 1) (fun _ => 0)).2.1 (fun s => if s / 8 = k then (rkP T L 8 0 0 (if k = 7 then p else p + 1) (fun _ => 0)).2.2 (s % 8) else B s) else (false, (rkP T L 8 0 0 (if k = 7 then p else p + 1) (fun _ => 0)).2.1, B)).1 = true → EqB (h' 21) (if (rkP T L 8 0 0 (if k = 7 then p else p + 1) (fun _ => 0)).1 = true then sqP T L k (rkP T L 8 0 0 (if k = 7 then p else p + 1) (fun _ => 0)).2.1 (fun s => if s / 8 = k then (rkP T L 8 0 0 (if k = 7 then p else p + 1) (fun _ => 0)).2.2 (s % 8) else B s) else (false, (rkP T L 8 0 0 (if k = 7 then p else p + 1) (fun _ => 0)).2.1, B)).2.2) := by
      intro g h2 p1 ep F0 f20 f17 f21 gp gl
      rw [← ep]
      obtain ⟨h', a1, a2, a3, a4, a5, a6, a7⟩ := rkX T L hT (show k < 8 by omega) B 8 0 0 p1 (fun _ => 0) g 1000 0 (by omega) (by omega) (by omega) (by omega) (by omega) (TxX_f ht F0) gp gl (fun s hs => by
        rw [f21, hb s hs]
        by_cases e : s / 8 = k
        · rw [if_pos e]; exact hz s hs (by omega)
        · rw [if_neg e])
      unfold f_Rd_takeSquares_j22_3
      have a1' : f_Rd_takeRank g (k : Int) = some ((if (rkP T L 8 0 0 p1 (fun _ => 0)).1 = true then 1 else 0), h') := a1
      rw [a1', obs]
      by_cases c : (rkP T L 8 0 0 p1 (fun _ => 0)).1 = true
      · rw [if_pos c, if_pos c]
        show ∃ h'', (if (1 : Int) = 0 then _ else _) = _ ∧ _
        rw [if_neg (by decide)]
        show ∃ h'', f_Rd_takeSquares_lp3 _ n (jadd (k : Int) (-1)) h' = _ ∧ _
        rw [jadd_eq (by omega) (by omega), show (k : Int) + -1 = (k : Int) - 1 by omega]
        obtain ⟨h'', b1, b2, b3, b4, b5, b6, b7⟩ := ih (rkP T L 8 0 0 p1 (fun _ => 0)).2.1 (fun s => if s / 8 = k then (rkP T L 8 0 0 p1 (fun _ => 0)).2.2 (s % 8) else B s) h' n (by omega) (by omega) (TxX_f ht (FrQ_t F0 a2)) a5 a6 (fun s hs => a7 s hs) (fun s hs q => by rw [if_neg (by omega)]; exact hz s hs (by omega))
        exact ⟨h'', b1, FrQ_t (FrQ_t F0 a2) b2, by rw [b3, a3, f20], by rw [b4, a4, f17], b5, b6, b7⟩
      · rw [if_neg c, if_neg c]
        refine ⟨h', rfl, FrQ_t F0 a2, by rw [a3, f20], by rw [a4, f17], a5, a6, fun q => by cases q⟩
    rw [f_Rd_takeSquares_lp3, show ((k + 1 : Nat) : Int) - 1 = (k : Int) by omega, if_neg (by omega)]
    by_cases c7 : k = 7
    · rw [if_pos (show (7 : Int) ≤ (k : Int) by omega), sqP_go (fun q => q.1 c7)]
      exact go h h p (by rw [if_pos c7]) (FrQ_0 h) rfl rfl rfl hp hpl
    · rw [if_neg (show ¬ (7 : Int) ≤ (k : Int) by omega), take_x hT ht hp hpl, obs]
      by_cases c : ltx T L p = 47
      · rw [if_pos c, sqP_go (fun q => q.2 c)]
        have hpL := lt_in (by decide) c
        show ∃ h', (if (1 : Int) = 0 then _ else _) = _ ∧ _
        rw [if_neg (show ¬ (1 : Int) = 0 by decide)]
        exact go (jup h 17 2 ((p + 1 : Nat) : Int)) h (p + 1) (by rw [if_neg c7]) (FrQ_up h _ (Or.inl rfl)) (jup_n _ _ _ (by decide)) (jup_sn _ _ _ (by decide)) (jup_n _ _ _ (by decide)) (jup_ss _ _ _ _) (by omega)
      · rw [if_neg c, sqP_no ⟨c7, c⟩]
        exact ⟨h, rfl, FrQ_0 h, rfl, rfl, hp, hpl, fun q => by cases q⟩
