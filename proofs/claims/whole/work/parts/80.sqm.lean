/-! reading: the reference's squares -/
theorem sqa {q fl i : Nat} (hq : q < 8) (hf : fl < 8) (hi : fl + i < 8) : jadd (jadd (jadd 19392 (jmul 8 (jsub 7 (jdiv ((8 * q + fl : Nat) : Int) 8)))) (jrem ((8 * q + fl : Nat) : Int) 8)) (i : Int) = ((64 * 303 + (8 * (7 - q) + fl + i) : Nat) : Int) := by
  rw [jdiv_eq (by omega) (by omega) (by decide) (by decide), jrem_eq (by omega) (by omega) (by decide) (by decide), jsub_eq (by omega) (by omega), jmul_eq (by omega) (by omega), jadd_eq (a := 19392) (by omega) (by omega), jadd_eq (b := ((8 * q + fl : Nat) : Int) % 8) (by omega) (by omega), jadd_eq (by omega) (by omega)]
  omega
theorem sqa0 {q fl : Nat} (hq : q < 8) (hf : fl < 8) : jadd (jadd 19392 (jmul 8 (jsub 7 (jdiv ((8 * q + fl : Nat) : Int) 8)))) (jrem ((8 * q + fl : Nat) : Int) 8) = ((64 * 303 + (8 * (7 - q) + fl) : Nat) : Int) := by
  rw [jdiv_eq (by omega) (by omega) (by decide) (by decide), jrem_eq (by omega) (by omega) (by decide) (by decide), jsub_eq (by omega) (by omega), jmul_eq (by omega) (by omega), jadd_eq (a := 19392) (by omega) (by omega), jadd_eq (by omega) (by omega)]
  omega
theorem zr_ok (h : jH) {q fl d : Nat} (hq : q < 8) (hf : fl < 8) (hd : fl + d ≤ 8) (pc : Int) (K : Int → jH → Option (Int × jH)) :
    ∃ g, f_M_readSquares_lp159 ((8 * q + fl : Nat) : Int) 1 (d : Int) pc K 1000 0 h = K (d : Int) g ∧ FrP h g ∧ g 24 = h 24 ∧ ∀ s, s < 64 → mb g 303 s = if s / 8 = 7 - q ∧ fl ≤ s % 8 ∧ s % 8 < fl + d then 0 else mb h 303 s := by
  obtain ⟨g, ⟨g1, g2, g3⟩, t⟩ := lp_all (fun n (i : Nat) (g : jH) => f_M_readSquares_lp159 ((8 * q + fl : Nat) : Int) 1 (d : Int) pc K n (i : Int) g) d (fun g => K (d : Int) g)
    (fun i g => FrP h g ∧ g 24 = h 24 ∧ ∀ s, s < 64 → mb g 303 s = if s / 8 = 7 - q ∧ fl ≤ s % 8 ∧ s % 8 < fl + i then 0 else mb h 303 s) (by
      intro n g hg
      show f_M_readSquares_lp159 _ _ _ _ _ (n + 1) _ g = _
      rw [f_M_readSquares_lp159, if_pos (by omega)]) (by
      intro n i g hi hg
      show ∃ s', _ ∧ f_M_readSquares_lp159 _ _ _ _ _ (n + 1) _ g = f_M_readSquares_lp159 _ _ _ _ _ n ((i + 1 : Nat) : Int) s'
      obtain ⟨g1, g2, g3⟩ := hg
      rw [f_M_readSquares_lp159, if_neg (by omega), if_neg (by decide), sqa hq hf (by omega), jgd_pos (by omega), Int.toNat_natCast, jadd_eq (by omega) (by omega)]
      refine ⟨_, ⟨FrP_t g1 (FrP_25 g 0 (by omega)), ?_, fun s hs => ?_⟩, rfl⟩
      · rw [jup_n _ _ _ (by decide)]; exact g2
      · rw [mb_up _ _ (by omega) hs]
        by_cases e : s = 8 * (7 - q) + fl + i
        · rw [if_pos ⟨rfl, e⟩, if_pos (by omega)]
        · rw [if_neg (fun z => e z.2), g3 s hs]
          by_cases e2 : s / 8 = 7 - q ∧ fl ≤ s % 8 ∧ s % 8 < fl + i
          · rw [if_pos e2, if_pos (by omega)]
          · rw [if_neg e2, if_neg (by omega)]) h 1000 ⟨FrP_0 h, rfl, fun s hs => by rw [if_neg (by omega)]⟩ (by omega)
  exact ⟨g, t, g1, g2, g3⟩
theorem zr_no (h : jH) (sq d pc : Int) (K : Int → jH → Option (Int × jH)) : f_M_readSquares_lp159 sq 0 d pc K 1000 0 h = K 0 h := by
  rw [show (1000 : Nat) = 999 + 1 from rfl, f_M_readSquares_lp159]
  by_cases c : d ≤ 0
  · rw [if_pos c]
  · rw [if_neg c, if_pos rfl]
theorem pc_m {T : Nat → Int} {L p : Nat} : pcI (ltm T L p) = pcI (ltx T L p) := by
  unfold ltm ltx
  by_cases c : p < L
  · rw [if_pos c, if_pos c]
  · rw [if_neg c, if_neg c]; decide +kernel
/-- one step of the reference's reading -/
theorem it_m {T : Nat → Int} {L : Nat} (hT : okT T L) {q fl gp p : Nat} (hq : q < 8) (hf : fl < 8) (hgp : gp ≤ 1) (h h4 : jH) (ht : TxM h T L) (hp : h 24 11 = (p : Int)) (hpl : p ≤ L) (rc k : Int → Int → Int → jH → Option (Int × jH)) :
    (¬ pcI (ltx T L p) = 0 → f_M_readSquares_j54_6 rc k h4 h ((8 * q + fl : Nat) : Int) (gp : Int) = rc ((8 * q + (fl + 1) : Nat) : Int) 0 1 (jup (jup h 25 (64 * 303 + (8 * (7 - q) + fl)) (pcI (ltx T L p) : Int)) 24 11 ((p + 1 : Nat) : Int))) ∧
    (pcI (ltx T L p) = 0 → gpo T L fl gp p → ∃ g, f_M_readSquares_j54_6 rc k h4 h ((8 * q + fl : Nat) : Int) (gp : Int) = rc ((8 * q + (fl + (ltx T L p - 48).toNat) : Nat) : Int) 1 1 (jup g 24 11 ((p + 1 : Nat) : Int)) ∧ FrP h g ∧ g 24 = h 24 ∧ ∀ s, s < 64 → mb g 303 s = if s / 8 = 7 - q ∧ fl ≤ s % 8 ∧ s % 8 < fl + (ltx T L p - 48).toNat then 0 else mb h 303 s) ∧
    (pcI (ltx T L p) = 0 → ¬ gpo T L fl gp p → ∃ f, f_M_readSquares_j54_6 rc k h4 h ((8 * q + fl : Nat) : Int) (gp : Int) = rc ((8 * q + fl : Nat) : Int) f 0 h) := by
  have hL := hT.1
  have hple := pcI_le (ltx T L p)
  have er : jrem ((8 * q + fl : Nat) : Int) 8 = (fl : Int) := by rw [jrem_eq (by omega) (by omega) (by decide) (by decide)]; omega
  have base : ∀ gap : Int, f_M_readSquares_j88_6 rc k h4 h ((8 * q + fl : Nat) : Int) (ltm T L p) gap = if gap ≤ 0 then f_M_readSquares_j145_6 rc k h4 h ((8 * q + fl : Nat) : Int) gap (pcI (ltx T L p) : Int) else if jadd (fl : Int) gap ≤ 8 then f_M_readSquares_j150_6 rc k h4 h ((8 * q + fl : Nat) : Int) gap (pcI (ltx T L p) : Int) else f_M_readSquares_j145_6 rc k h4 h ((8 * q + fl : Nat) : Int) gap (pcI (ltx T L p) : Int) := by
    intro gap
    unfold f_M_readSquares_j88_6
    rw [er, pf_m h (ltm T L p) _ _ _ (fun l28 => if gap ≤ 0 then f_M_readSquares_j145_6 rc k h4 h ((8 * q + fl : Nat) : Int) gap l28 else if jadd (fl : Int) gap ≤ 8 then f_M_readSquares_j150_6 rc k h4 h ((8 * q + fl : Nat) : Int) gap l28 else f_M_readSquares_j145_6 rc k h4 h ((8 * q + fl : Nat) : Int) gap l28) (fun _ _ => rfl), pc_m]
  have fail : ∀ gap : Int, pcI (ltx T L p) = 0 → f_M_readSquares_j145_6 rc k h4 h ((8 * q + fl : Nat) : Int) gap (pcI (ltx T L p) : Int) = rc ((8 * q + fl : Nat) : Int) (if gap ≤ 0 then 0 else 1) 0 h := by
    intro gap e
    unfold f_M_readSquares_j145_6 f_M_readSquares_j155_6
    rw [e, if_pos (by decide), zr_no]
    unfold f_M_readSquares_j204_6
    rw [if_pos (by decide)]
    unfold f_M_readSquares_j236_6
    rw [if_pos rfl]
    unfold f_M_readSquares_j257_6 f_M_readSquares_j276_6
    rw [if_pos rfl, jup_id]
  have lb : -1 ≤ ltx T L p ∧ ltx T L p ≤ 126 ∧ (ltm T L p = ltx T L p ∨ (ltm T L p = 0 ∧ ltx T L p = -1)) := by
    unfold ltx ltm
    by_cases d : p < L
    · rw [if_pos d, if_pos d]; have := hT.2 p d; omega
    · rw [if_neg d, if_neg d]; omega
  unfold f_M_readSquares_j54_6
  rw [let_m hT ht hp, obs]
  refine ⟨fun c => ?_, fun c cg => ?_, fun c cg => ?_⟩
  · have hi := pcI_hi c
    have hpL := pc_in c
    have em : ltm T L p = ltx T L p := by omega
    rw [if_neg (by omega), if_pos (by omega)]
    unfold f_M_readSquares_j87_6
    rw [base, if_pos (by decide)]
    unfold f_M_readSquares_j145_6 f_M_readSquares_j150_6 f_M_readSquares_j155_6
    rw [if_neg (by omega)]
    have e0 : f_M_readSquares_lp159 ((8 * q + fl : Nat) : Int) 1 0 (pcI (ltx T L p) : Int) (fun l45 h46 => f_M_readSquares_j204_6 rc k h4 h46 ((8 * q + fl : Nat) : Int) 1 0 (pcI (ltx T L p) : Int)) 1000 0 h = f_M_readSquares_j204_6 rc k h4 h ((8 * q + fl : Nat) : Int) 1 0 (pcI (ltx T L p) : Int) := by
      rw [show (1000 : Nat) = 999 + 1 from rfl, f_M_readSquares_lp159, if_pos (by decide)]
    rw [e0]
    unfold f_M_readSquares_j204_6
    rw [if_neg (by omega), sqa0 hq hf, i2b (by omega) (by omega), jgd_pos (by omega), Int.toNat_natCast]
    unfold f_M_readSquares_j236_6
    rw [if_neg (show ¬ (1 : Int) = 0 by decide)]
    unfold f_M_readSquares_j252_6 f_M_readSquares_j257_6 f_M_readSquares_j276_6
    rw [if_neg (show ¬ (1 : Int) = 0 by decide), if_neg (by omega), jup_n _ _ _ (by decide), hp, jadd_eq (by omega) (by omega), jadd_eq (by omega) (by omega)]
    rfl
  · obtain ⟨g1, g2, g3⟩ := cg
    have hpL := lt_pos (show 0 ≤ ltx T L p by omega)
    have em : ltm T L p = ltx T L p := by omega
    rw [if_neg (by omega), if_neg (by omega), if_pos (by omega), jsub_eq (by omega) (by omega), base, if_neg (by omega), jadd_eq (by omega) (by omega), if_pos (by omega), em, show ltx T L p - 48 = (((ltx T L p - 48).toNat : Nat) : Int) by omega]
    unfold f_M_readSquares_j150_6 f_M_readSquares_j155_6
    obtain ⟨g, a1, a2, a3, a4⟩ := zr_ok h (d := (ltx T L p - 48).toNat) hq hf (by omega) (pcI (ltx T L p) : Int) (fun l45 h46 => f_M_readSquares_j204_6 rc k h4 h46 ((8 * q + fl : Nat) : Int) 1 (((ltx T L p - 48).toNat : Nat) : Int) (pcI (ltx T L p) : Int))
    rw [a1]
    unfold f_M_readSquares_j204_6
    rw [if_pos (by omega)]
    unfold f_M_readSquares_j236_6
    rw [if_neg (show ¬ (1 : Int) = 0 by decide)]
    unfold f_M_readSquares_j252_6 f_M_readSquares_j257_6 f_M_readSquares_j276_6
    have gp' : g 24 11 = (p : Int) := by rw [a3]; exact hp
    rw [if_neg (show ¬ (1 : Int) = 0 by decide), if_pos (by omega), gp', jadd_eq (by omega) (by omega), jadd_eq (by omega) (by omega), if_neg (by omega)]
    refine ⟨g, ?_, a2, a3, fun s hs => ?_⟩
    · rw [show ((8 * q + fl : Nat) : Int) + (((ltx T L p - 48).toNat : Nat) : Int) = ((8 * q + (fl + (ltx T L p - 48).toNat) : Nat) : Int) by omega]
      rfl
    · exact a4 s hs
  · by_cases c1 : ltm T L p < 49
    · rw [if_pos c1]
      unfold f_M_readSquares_j87_6
      rw [base, if_pos (by decide), fail 0 c]
      exact ⟨_, rfl⟩
    · rw [if_neg c1]
      by_cases c2 : 56 < ltm T L p
      · rw [if_pos c2]
        unfold f_M_readSquares_j87_6
        rw [base, if_pos (by decide), fail 0 c]
        exact ⟨_, rfl⟩
      · rw [if_neg c2]
        by_cases c3 : (gp : Int) = 0
        · rw [if_pos c3, jsub_eq (by omega) (by omega), base, if_neg (by omega), jadd_eq (by omega) (by omega)]
          have : ¬ (fl : Int) + (ltm T L p - 48) ≤ 8 := fun z => cg ⟨by omega, by omega, by omega⟩
          rw [if_neg this, fail _ c]
          exact ⟨_, rfl⟩
        · rw [if_neg c3]
          unfold f_M_readSquares_j87_6
          rw [base, if_pos (by decide), fail 0 c]
          exact ⟨_, rfl⟩
def K79 : Int → Int → Int → jH → Option (Int × jH) := fun l76 l77 l78 h79 => some (l76, h79)
theorem rkM (T : Nat → Int) (L : Nat) (hT : okT T L) {q : Nat} (hq : q < 8) : ∀ (k fl gp p fm : Nat) (acc : Nat → Int) (h h4 : jH) (n : Nat), 8 ≤ fl + k → fl < 8 → k ≤ n → 1 ≤ n → gp ≤ 1 → (gp = if fm = 0 then 0 else if fl = 0 then 0 else 1) → TxM h T L → h 24 11 = (p : Int) → p ≤ L → (∀ y, y < fl → mb h 303 (8 * (7 - q) + y) = acc y) → (∀ y, fl ≤ y → acc y = 0) →
    ∃ h', FrP h h' ∧ h' 24 11 = ((rkP T L k fl gp p acc).2.1 : Int) ∧ (rkP T L k fl gp p acc).2.1 ≤ L ∧
      ((rkP T L k fl gp p acc).1 = true → (∃ n' fm', n ≤ n' + k ∧ f_M_readSquares_j38_6 (f_M_readSquares_lp6 K79 n) K79 h4 h ((8 * q + fl : Nat) : Int) (fm : Int) = f_M_readSquares_lp6 K79 n' ((8 * q + 8 : Nat) : Int) ((fm' : Nat) : Int) 1 h') ∧ (∀ y, y < 8 → mb h' 303 (8 * (7 - q) + y) = (rkP T L k fl gp p acc).2.2 y) ∧ (∀ s, s < 64 → s / 8 ≠ 7 - q → mb h' 303 s = mb h 303 s)) ∧
      (¬ (rkP T L k fl gp p acc).1 = true → ∃ v : Nat, v < 64 ∧ f_M_readSquares_j38_6 (f_M_readSquares_lp6 K79 n) K79 h4 h ((8 * q + fl : Nat) : Int) (fm : Int) = some ((v : Int), h')) := by
  intro k
  induction k with
  | zero => intro fl gp p fm acc h h4 n h1 h2; omega
  | succ k ih =>
    intro fl gp p fm acc h h4 n h1 h2 h3 h3' h5 h6 ht hp hpl hb hz
    obtain ⟨n, rfl⟩ : ∃ n', n = n' + 1 := ⟨n - 1, by omega⟩
    have hL := hT.1
    have e38 : f_M_readSquares_j38_6 (f_M_readSquares_lp6 K79 (n + 1)) K79 h4 h ((8 * q + fl : Nat) : Int) (fm : Int) = f_M_readSquares_j54_6 (f_M_readSquares_lp6 K79 (n + 1)) K79 h4 h ((8 * q + fl : Nat) : Int) (gp : Int) := by
      unfold f_M_readSquares_j38_6 f_M_readSquares_j53_6
      have er : jrem ((8 * q + fl : Nat) : Int) 8 = (fl : Int) := by rw [jrem_eq (by omega) (by omega) (by decide) (by decide)]; omega
      rw [er]
      by_cases c1 : fm = 0
      · rw [if_pos c1] at h6
        rw [if_pos (by omega), h6]; rfl
      · rw [if_neg c1] at h6
        rw [if_neg (by omega)]
        by_cases c2 : fl = 0
        · rw [if_pos c2] at h6
          rw [if_pos (by omega), h6]; rfl
        · rw [if_neg c2] at h6
          rw [if_neg (by omega), h6]; rfl
    rw [e38]
    obtain ⟨i1, i2, i3⟩ := it_m hT hq h2 h5 h h4 ht hp hpl (f_M_readSquares_lp6 K79 (n + 1)) K79
    -- the next step of the loop
    have nx : ∀ (g : jH) (fl' fm' : Nat), 0 < fl' → fl' < 8 → f_M_readSquares_lp6 K79 (n + 1) ((8 * q + fl' : Nat) : Int) (fm' : Int) 1 g = f_M_readSquares_j38_6 (f_M_readSquares_lp6 K79 n) K79 g g ((8 * q + fl' : Nat) : Int) (fm' : Int) := by
      intro g fl' fm' z1 z2
      rw [f_M_readSquares_lp6, if_neg (by decide), if_neg (by omega), if_neg (by omega), jrem_eq (by omega) (by omega) (by decide) (by decide), if_neg (by omega)]
    unfold rkP
    rw [if_neg (by omega)]
    by_cases c2 : pcI (ltx T L p) = 0
    · rw [if_pos c2]
      by_cases c3 : gpo T L fl gp p
      · rw [if_pos c3]
        obtain ⟨g, r1, r2, r3, r4⟩ := i2 c2 c3
        have hpL := lt_pos (show 0 ≤ ltx T L p by have := c3.2.1; omega)
        rw [r1]
        have dd : 1 ≤ (ltx T L p - 48).toNat ∧ fl + (ltx T L p - 48).toNat ≤ 8 := by have := c3.2; omega
        have F1 : FrP h (jup g 24 11 ((p + 1 : Nat) : Int)) := FrP_t r2 (FrP_24 g _ (Or.inl rfl))
        have mbj : ∀ s, mb (jup g 24 11 ((p + 1 : Nat) : Int)) 303 s = mb g 303 s := fun s => by rw [mb_o _ _ _ (by decide)]
        by_cases c8 : fl + (ltx T L p - 48).toNat = 8
        · have er8 : rkP T L k (fl + (ltx T L p - 48).toNat) 1 (p + 1) acc = (true, p + 1, acc) := by
            cases k with
            | zero => rfl
            | succ k => rw [rkP, if_pos (by omega)]
          rw [er8]
          refine ⟨jup g 24 11 ((p + 1 : Nat) : Int), F1, jup_ss _ _ _ _, show p + 1 ≤ L by omega, fun _ => ⟨⟨n + 1, 1, by omega, ?_⟩, fun y hy => ?_, fun s hs hn => ?_⟩, fun q => absurd rfl q⟩
          · rw [show 8 * q + (fl + (ltx T L p - 48).toNat) = 8 * q + 8 by omega]; rfl
          · rw [mbj, r4 _ (by omega)]
            show _ = acc y
            by_cases e : y < fl
            · rw [if_neg (by omega)]; exact hb y e
            · rw [if_pos (by omega)]; exact (hz y (by omega)).symm
          · rw [mbj, r4 _ hs, if_neg (by omega)]
        · obtain ⟨h', a1, a2, a3, a4, a5⟩ := ih (fl + (ltx T L p - 48).toNat) 1 (p + 1) 1 acc (jup g 24 11 ((p + 1 : Nat) : Int)) (jup g 24 11 ((p + 1 : Nat) : Int)) n (by omega) (by omega) (by omega) (by omega) (by omega) (by rw [if_neg (by omega), if_neg (by omega)]) (TxM_f ht F1) (jup_ss _ _ _ _) (by omega) (fun y hy => by
            rw [mbj, r4 _ (by omega)]
            by_cases e : y < fl
            · rw [if_neg (by omega)]; exact hb y e
            · rw [if_pos (by omega)]; exact (hz y (by omega)).symm) (fun y hy => hz y (by omega))
          have nx1 := nx (jup g 24 11 ((p + 1 : Nat) : Int)) (fl + (ltx T L p - 48).toNat) 1 (by omega) (by omega)
          have nx2 : f_M_readSquares_lp6 K79 (n + 1) ((8 * q + (fl + (ltx T L p - 48).toNat) : Nat) : Int) 1 1 (jup g 24 11 ((p + 1 : Nat) : Int)) = _ := nx1
          rw [nx2]
          refine ⟨h', FrP_t F1 a1, a2, a3, fun z => ?_, a5⟩
          obtain ⟨⟨n', fm', z1, z2⟩, z3, z4⟩ := a4 z
          exact ⟨⟨n', fm', by omega, z2⟩, z3, fun s hs hn => by rw [z4 s hs hn, mbj, r4 _ hs, if_neg (by omega)]⟩
      · rw [if_neg c3]
        obtain ⟨f, r1⟩ := i3 c2 c3
        rw [r1]
        refine ⟨h, FrP_0 h, hp, hpl, fun q => (by cases q), fun _ => ⟨8 * q + fl, by omega, ?_⟩⟩
        rw [f_M_readSquares_lp6, if_pos rfl]; rfl
    · rw [if_neg c2]
      have hpL := pc_in c2
      have hle := pcI_le (ltx T L p)
      rw [i1 c2]
      generalize hg : jup (jup h 25 (64 * 303 + (8 * (7 - q) + fl)) (pcI (ltx T L p) : Int)) 24 11 ((p + 1 : Nat) : Int) = g
      have F1 : FrP h g := by rw [← hg]; exact FrP_t (FrP_25 h _ (by omega)) (FrP_24 _ _ (Or.inl rfl))
      have mbj : ∀ s, s < 64 → mb g 303 s = if s = 8 * (7 - q) + fl then (pcI (ltx T L p) : Int) else mb h 303 s := fun s hs => by
        rw [← hg, mb_o _ _ _ (by decide), mb_up _ _ (by omega) hs]
        by_cases e : s = 8 * (7 - q) + fl
        · rw [if_pos e, if_pos ⟨rfl, e⟩]
        · rw [if_neg e, if_neg (fun z => e z.2)]
      have gp1 : g 24 11 = ((p + 1 : Nat) : Int) := by rw [← hg]; exact jup_ss _ _ _ _
      have acc1 : ∀ y, y < fl + 1 → mb g 303 (8 * (7 - q) + y) = (fun y => if y = fl then (pcI (ltx T L p) : Int) else acc y) y := by
        intro y hy
        rw [mbj _ (by omega)]
        show _ = if y = fl then _ else _
        by_cases e : y = fl
        · rw [if_pos (by omega), if_pos e]
        · rw [if_neg (by omega), if_neg e]; exact hb y (by omega)
      by_cases c8 : fl + 1 = 8
      · have er8 : rkP T L k (fl + 1) 0 (p + 1) (fun y => if y = fl then (pcI (ltx T L p) : Int) else acc y) = (true, p + 1, fun y => if y = fl then (pcI (ltx T L p) : Int) else acc y) := by
          cases k with
          | zero => rfl
          | succ k => rw [rkP, if_pos (by omega)]
        rw [er8]
        refine ⟨g, F1, gp1, show p + 1 ≤ L by omega, fun _ => ⟨⟨n + 1, 0, by omega, ?_⟩, fun y hy => acc1 y (by omega), fun s hs hn => ?_⟩, fun q => absurd rfl q⟩
        · rw [show 8 * q + (fl + 1) = 8 * q + 8 by omega]; rfl
        · rw [mbj _ hs, if_neg (by omega)]
      · obtain ⟨h', a1, a2, a3, a4, a5⟩ := ih (fl + 1) 0 (p + 1) 0 (fun y => if y = fl then (pcI (ltx T L p) : Int) else acc y) g g n (by omega) (by omega) (by omega) (by omega) (by omega) (by rw [if_pos rfl]) (TxM_f ht F1) gp1 (by omega) acc1 (fun y hy => by
          show (if y = fl then _ else _) = _
          rw [if_neg (by omega)]; exact hz y (by omega))
        have nx1 := nx g (fl + 1) 0 (by omega) (by omega)
        have nx2 : f_M_readSquares_lp6 K79 (n + 1) ((8 * q + (fl + 1) : Nat) : Int) 0 1 g = _ := nx1
        rw [nx2]
        refine ⟨h', FrP_t F1 a1, a2, a3, fun z => ?_, a5⟩
        obtain ⟨⟨n', fm', z1, z2⟩, z3, z4⟩ := a4 z
        exact ⟨⟨n', fm', by omega, z2⟩, z3, fun s hs hn => by rw [z4 s hs hn, mbj _ hs, if_neg (by omega)]⟩
theorem sqM_ok (T : Nat → Int) (L : Nat) (hT : okT T L) : ∀ (k p fm : Nat) (B : Nat → Int) (h : jH) (n : Nat), k ≤ 8 → 9 * k + 1 ≤ n → TxM h T L → h 24 11 = (p : Int) → p ≤ L → (∀ s, s < 64 → k ≤ s / 8 → mb h 303 s = B s) →
    ∃ (h' : jH) (v : Nat), f_M_readSquares_lp6 K79 n ((8 * (8 - k) : Nat) : Int) (fm : Int) 1 h = some ((v : Int), h') ∧ FrP h h' ∧ h' 24 11 = ((sqP T L k p B).2.1 : Int) ∧ (sqP T L k p B).2.1 ≤ L ∧ ((sqP T L k p B).1 = true → v = 64 ∧ EqB (mb h' 303) (sqP T L k p B).2.2) ∧ (¬ (sqP T L k p B).1 = true → v < 64) := by
  intro k
  induction k with
  | zero =>
    intro p fm B h n h1 h2 ht hp hpl hb
    obtain ⟨n, rfl⟩ : ∃ n', n = n' + 1 := ⟨n - 1, by omega⟩
    refine ⟨h, 64, ?_, FrP_0 h, hp, hpl, fun _ => ⟨rfl, fun s hs => hb s hs (by omega)⟩, fun q => absurd rfl q⟩
    rw [f_M_readSquares_lp6, if_neg (by decide), if_pos (by decide)]
    rfl
  | succ k ih =>
    intro p fm B h n h1 h2 ht hp hpl hb
    obtain ⟨n, rfl⟩ : ∃ n', n = n' + 1 := ⟨n - 1, by omega⟩
    have hL := hT.1
    have eq : 8 * (8 - (k + 1)) = 8 * (7 - k) + 0 := by omega
    have go : ∀ (g g4 : jH) (p1 : Nat), p1 = (if k = 7 then p else p + 1) → (¬ (k ≠ 7 ∧ ltx T L p ≠ 47)) → FrP h g → (∀ s, mb g 303 s = mb h 303 s) → g 24 11 = (p1 : Int) → p1 ≤ L → ∃ (h' : jH) (v : Nat), f_M_readSquares_j38_6 (f_M_readSquares_lp6 K79 n) K79 g4 g ((8 * (7 - k) + 0 : Nat) : Int) (fm : Int) = some ((v : Int), h') ∧ FrP h h' ∧ h' 24 11 = ((sqP T L (k + 1) p B).2.1 : Int) ∧ (sqP T L (k + 1) p B).2.1 ≤ L ∧ ((sqP T L (k + 1) p B).1 = true → v = 64 ∧ EqB (mb h' 303) (sqP T L (k + 1) p B).2.2) ∧ (¬ (sqP T L (k + 1) p B).1 = true → v < 64) := by
      intro g g4 p1 ep hc F0 fm0 gp gl
      rw [sqP_go hc, ← ep]
      obtain ⟨h', a1, a2, a3, a4, a5⟩ := rkM T L hT (show 7 - k < 8 by omega) 8 0 0 p1 fm (fun _ => 0) g g4 n (by omega) (by omega) (by omega) (by omega) (by omega) (by split <;> rfl) (TxM_f ht F0) gp gl (fun y hy => by omega) (fun _ _ => rfl)
      by_cases c : (rkP T L 8 0 0 p1 (fun _ => 0)).1 = true
      · rw [if_pos c]
        obtain ⟨⟨n', fm', z1, z2⟩, z3, z4⟩ := a4 c
        rw [z2, show 8 * (7 - k) + 8 = 8 * (8 - k) by omega]
        obtain ⟨h'', v, b1, b2, b3, b4, b5, b6⟩ := ih (rkP T L 8 0 0 p1 (fun _ => 0)).2.1 fm' (fun s => if s / 8 = k then (rkP T L 8 0 0 p1 (fun _ => 0)).2.2 (s % 8) else B s) h' n' (by omega) (by omega) (TxM_f ht (FrP_t F0 a1)) a2 a3 (fun s hs hk => by
          show _ = if s / 8 = k then _ else _
          by_cases e : s / 8 = k
          · rw [if_pos e]
            have := z3 (s % 8) (by omega)
            rw [show 8 * (7 - (7 - k)) + s % 8 = s by omega] at this
            exact this
          · rw [if_neg e, z4 s hs (by omega), fm0]; exact hb s hs (by omega))
        exact ⟨h'', v, b1, FrP_t (FrP_t F0 a1) b2, b3, b4, b5, b6⟩
      · rw [if_neg c]
        obtain ⟨v, v1, v2⟩ := a5 c
        exact ⟨h', v, v2, FrP_t F0 a1, a2, a3, fun q => (by cases q), fun _ => v1⟩
    rw [eq, f_M_readSquares_lp6, if_neg (by decide), if_neg (by omega)]
    by_cases c7 : k = 7
    · rw [if_pos (by omega)]
      exact go h h p (by rw [if_pos c7]) (fun q => q.1 c7) (FrP_0 h) (fun _ => rfl) hp hpl
    · rw [if_neg (by omega), jrem_eq (by omega) (by omega) (by decide) (by decide), if_pos (by omega), is_m hT ht hp hpl (by decide), obs]
      by_cases c : ltx T L p = 47
      · rw [if_pos c]
        have hpL := lt_in (by decide) c
        show ∃ (h' : jH) (v : Nat), (if (1 : Int) = 0 then _ else _) = _ ∧ _
        rw [if_neg (show ¬ (1 : Int) = 0 by decide)]
        exact go (jup h 24 11 ((p + 1 : Nat) : Int)) h (p + 1) (by rw [if_neg c7]) (fun q => q.2 c) (FrP_24 h _ (Or.inl rfl)) (fun s => by rw [mb_o _ _ _ (by decide)]) (jup_ss _ _ _ _) (by omega)
      · rw [if_neg c, sqP_no ⟨c7, c⟩]
        refine ⟨h, 8 * (7 - k) + 0, ?_, FrP_0 h, hp, hpl, fun q => (by cases q), fun _ => by omega⟩
        show (if (0 : Int) = 0 then _ else _) = _
        rw [if_pos rfl]
