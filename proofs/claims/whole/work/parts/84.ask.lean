/-! the calls that only ask -/
theorem RR_k {h h' : jH} (hR : RR h) (e : ∀ a, a ≠ 9 → ¬ (11 ≤ a ∧ a ≤ 17) → a ≠ 20 → a ≠ 21 → h' a = h a) : RR h' := by
  obtain ⟨⟨n, r⟩, t, p⟩ := hR
  have e' : ∀ a, (a ≤ 8 ∨ a = 10 ∨ (18 ≤ a ∧ a ≤ 19) ∨ 22 ≤ a) → h' a = h a := fun a ha => e a (by omega) (by omega) (by omega) (by omega)
  refine ⟨⟨n, RA_c r (AgA_s (fun a ha => e' a (by omega)) (by rw [e' 24 (by omega)]) (by rw [e' 24 (by omega)]) n)⟩, RT_c t (e' 18 (by omega)) (e' 19 (by omega)) (e' 31 (by omega)) (by rw [e' 24 (by omega)]), RP_c p (e' 22 (by omega)) (e' 23 (by omega)) (e' 32 (by omega)) (by rw [e' 24 (by omega)])⟩
theorem RR_wk {h g : jH} {n : Nat} (hR : RR h) (en : h 1 6 = (n : Int)) (hW : WK h g n) : RR g := by
  obtain ⟨⟨m, r⟩, t, p⟩ := hR
  have em : m = n := by have := r.2.1; omega
  subst em
  obtain ⟨w1, w2, ⟨c1, c2, c3, c4, c5⟩, w4⟩ := hW
  have e' : ∀ a, (a = 0 ∨ a = 10 ∨ (18 ≤ a ∧ a ≤ 19) ∨ 22 ≤ a) → g a = h a := fun a ha => w1 a (by omega) (by omega) (by omega)
  refine ⟨⟨m, RA_c r ⟨⟨by rw [e' 0 (by omega)], by rw [w2, en], by rw [e' 24 (by omega)], by rw [e' 24 (by omega)]⟩, c1, ⟨c2, c3, c4, c5⟩, fun k hk => w4 k (by omega), e' 10 (by omega), fun k _ => ?_⟩⟩, RT_c t (e' 18 (by omega)) (e' 19 (by omega)) (e' 31 (by omega)) (by rw [e' 24 (by omega)]), RP_c p (e' 22 (by omega)) (e' 23 (by omega)) (e' 32 (by omega)) (by rw [e' 24 (by omega)])⟩
  rw [mb_e (e' 25 (by omega)) k, e' 26 (by omega), e' 27 (by omega), e' 28 (by omega), e' 29 (by omega), e' 30 (by omega)]
  exact ⟨EqB_rf _, rfl, rfl, rfl, rfl, rfl⟩
theorem RR_fr {h g : jH} {n q : Nat} (hR : RR h) (en : h 1 6 = (n : Int)) (hq : n < q) (hF : FrR h g q) : RR g := by
  obtain ⟨⟨m, r⟩, t, p⟩ := hR
  have em : m = n := by have := r.2.1; omega
  subst em
  have e' : ∀ a, (a ≤ 24 ∨ 30 ≤ a) → g a = h a := fun a ha => hF.1 a (by omega) (by omega) (by omega) (by omega) (by omega)
  refine ⟨⟨m, RA_c r ⟨⟨by rw [e' 0 (by omega)], by rw [e' 1 (by omega)], by rw [e' 24 (by omega)], by rw [e' 24 (by omega)]⟩, by rw [e' 3 (by omega)]; exact EqB_rf _, by rw [e' 2 (by omega)]; exact ⟨rfl, rfl, rfl, rfl⟩, fun k hk => ?_, e' 10 (by omega), fun k hk => ?_⟩⟩, RT_c t (e' 18 (by omega)) (e' 19 (by omega)) (e' 31 (by omega)) (by rw [e' 24 (by omega)]), RP_c p (e' 22 (by omega)) (e' 23 (by omega)) (e' 32 (by omega)) (by rw [e' 24 (by omega)])⟩
  · rw [e' 4 (by omega), e' 5 (by omega), e' 6 (by omega), e' 7 (by omega), e' 8 (by omega)]; exact ⟨rfl, rfl, rfl, rfl, rfl⟩
  · have s := hF.2 k (by omega)
    exact ⟨s.1, s.2.1, s.2.2.1, s.2.2.2.1, s.2.2.2.2, by rw [e' 30 (by omega)]⟩
theorem q_at {h : jH} (hR : RR h) (a : Int) : ∃ v m, f_X_at h a = some v ∧ f_M_at h a = some (v, m) ∧ RR m := by
  have h0 := RR_0 hR
  obtain ⟨⟨n, r⟩, -, -⟩ := h0
  unfold f_X_at f_X_isSquare f_M_at
  rw [obs]
  by_cases c1 : a < 0
  · rw [if_pos c1, if_pos rfl, if_pos c1]; exact ⟨_, _, rfl, rfl, RR_0 hR⟩
  · rw [if_neg c1, if_neg c1]
    by_cases c2 : 64 ≤ a
    · rw [if_pos c2, if_pos rfl, if_pos c2]; exact ⟨_, _, rfl, rfl, RR_0 hR⟩
    · rw [if_neg c2, if_neg (by decide), if_neg c2, jgd_pos (by omega), r.2.2.1]
      have ea : a = ((a.toNat : Nat) : Int) := by omega
      have pc := pc_ok (jup h 24 0 0) (p := n) (s := a.toNat) (by have := r.1; omega) (by omega)
      rw [← ea] at pc
      rw [pc, obs]
      refine ⟨_, _, rfl, ?_, RR_0 hR⟩
      have := r.2.2.2.1 a.toNat (by omega)
      rw [jup_n _ _ _ (by decide)] at this
      rw [this]
theorem q_state {h : jH} (hR : RR h) (a : Int) : ∃ v m, f_X_state h a = some v ∧ f_M_state h a = some (v, m) ∧ RR m := by
  have h0 := RR_0 hR
  obtain ⟨⟨n, r⟩, -, -⟩ := h0
  obtain ⟨g1, g2, g3⟩ := RA_good r
  have e0 : jup h 24 0 0 0 = h 0 := jup_n _ _ _ (by decide)
  have e1 : jup h 24 0 0 1 = h 1 := jup_n _ _ _ (by decide)
  have e2 : jup h 24 0 0 2 = h 2 := jup_n _ _ _ (by decide)
  rw [e0] at g1 g2 g3
  unfold f_X_state f_M_state
  by_cases c : h 0 9 = 0
  · rw [if_pos c, if_pos (g1.mp c)]; exact ⟨_, _, rfl, rfl, RR_0 hR⟩
  · rw [if_neg c, if_neg (fun q => c (g1.mpr q))]
    obtain ⟨-, -, rg⟩ := g2 c
    obtain ⟨-, c2, c3, c4, c5⟩ := rg.2.1
    rw [e2] at c2 c3 c4 c5
    have r1 := r.2.1
    rw [e1] at r1
    have hn := r.1
    rw [r.2.2.1, Int.toNat_natCast]
    by_cases k0 : a = 0
    · rw [if_pos k0, if_pos k0, jgd_pos (by omega), c2]; exact ⟨_, _, rfl, rfl, RR_0 hR⟩
    rw [if_neg k0, if_neg k0]
    by_cases k1 : a = 1
    · rw [if_pos k1, if_pos k1, jgd_pos (by omega), c3]; exact ⟨_, _, rfl, rfl, RR_0 hR⟩
    rw [if_neg k1, if_neg k1]
    by_cases k2 : a = 2
    · rw [if_pos k2, if_pos k2, jgd_pos (by omega), c4]; exact ⟨_, _, rfl, rfl, RR_0 hR⟩
    rw [if_neg k2, if_neg k2]
    by_cases k3 : a = 3
    · rw [if_pos k3, if_pos k3, jgd_pos (by omega), c5]; exact ⟨_, _, rfl, rfl, RR_0 hR⟩
    rw [if_neg k3, if_neg k3]
    by_cases k4 : a = 4
    · rw [if_pos k4, if_pos k4, r1]; exact ⟨_, _, rfl, rfl, RR_0 hR⟩
    rw [if_neg k4, if_neg k4]
    exact ⟨_, _, rfl, rfl, RR_0 hR⟩
/-- gathering the moves: what the class then holds, what the reference sees -/
theorem gather_rel {h : jH} (hR : RR h) (hg : ¬ h 0 9 = 0) : ∃ g n, f_Mt_gather 11 h = some (((nm (lgX h) : Nat) : Int), g) ∧ Tb 11 h g (lgX h) ∧ lgX g = lgX h ∧ RR g ∧ RA g n ∧ RG g n ∧ g 0 = h 0 ∧ g 1 = h 1 ∧ RA (jup g 24 0 0) n ∧ RG (jup g 24 0 0) n ∧ g 2 = h 2 ∧ g 3 = h 3 ∧ nm (lgM (jup g 24 0 0) n) = nm (lgX h) := by
  obtain ⟨⟨n, r⟩, -, -⟩ := id hR
  obtain ⟨-, g2, -⟩ := RA_good r
  obtain ⟨-, -, rg⟩ := g2 hg
  obtain ⟨p1, p2, p3, p4, p5⟩ := RG_pos rg
  obtain ⟨g, t1, t2⟩ := gat_ok2 11 h (by omega) p2
  have e : ∀ a, a ≠ 12 → a ≠ 13 → g a = h a := fun a h1 h2 => t2.1 a h1 h2
  have el : lgX g = lgX h := by unfold lgX; rw [e 2 (by decide) (by decide), e 3 (by decide) (by decide)]
  have rr : RR g := RR_k hR (fun a h1 h2 h3 h4 => e a (by omega) (by omega))
  have A1 : AgA h g n := AgA_s (fun a ha => e a (by omega) (by omega)) (by rw [e 24 (by decide) (by decide)]) (by rw [e 24 (by decide) (by decide)]) n
  have ra := RA_c r A1
  have rg' := RG_c rg A1
  have A2 : AgA g (jup g 24 0 0) n := AgA_s (h := g) (h' := jup g 24 0 0) (fun a ha => jup_n g (a := 24) 0 0 (by omega)) (jup_sn g 24 (k := 0) 0 (by decide)) (jup_sn g 24 (k := 0) 0 (by decide)) n
  have rg0 := RG_c rg' A2
  refine ⟨g, n, t1, t2, el, rr, ra, rg', e 0 (by decide) (by decide), e 1 (by decide) (by decide), RA_c ra A2, rg0, e 2 (by decide) (by decide), e 3 (by decide) (by decide), ?_⟩
  rw [← el]
  refine nm_c (fun f x c hf hx => ?_)
  have := RG_lg rg0 f x c hf hx
  have e0 : lgX (jup g 24 0 0) = lgX g := by unfold lgX; rw [jup_n _ _ _ (by decide), jup_n _ _ _ (by decide)]
  rw [e0] at this
  exact this.symm
theorem q_moves {h : jH} (hR : RR h) : ∃ v g m, f_X_moves h = some (v, g) ∧ f_M_moves g = some (v, m) ∧ RR m := by
  unfold f_X_moves
  by_cases c : h 0 9 = 0
  · rw [if_pos c]
    obtain ⟨⟨n, r⟩, -, -⟩ := id hR
    refine ⟨-1, h, jup h 24 0 0, rfl, ?_, RR_0 hR⟩
    unfold f_M_moves
    rw [jup_sn _ _ _ (by decide), if_pos ((RA_good r).1.mp c)]
  · rw [if_neg c]
    obtain ⟨g, n, t1, t2, el, rr, ra, rg, e0, e1, ra0, rg0, e2, e3, en⟩ := gather_rel hR c
    obtain ⟨p1, p2, p3, p4, p5⟩ := RG_pos rg0
    rw [t1, obs]
    refine ⟨_, g, jup g 24 0 0, rfl, ?_, RR_0 rr⟩
    unfold f_M_moves
    have g8 : ¬ jup g 24 0 0 24 8 = 0 := fun q => by
      have := (RA_good ra0).1.mpr q
      rw [jup_n _ _ _ (by decide), e0] at this
      exact c this
    rw [if_neg g8, ra0.2.2.1, mo_ok _ (by have := ra0.1; omega) p3, obs, en]
theorem q_move {h : jH} (hR : RR h) {a : Int} (ha : ok32 a) : ∃ v g m, f_X_move h a = some (v, g) ∧ f_M_move g a = some (v, m) ∧ RR m := by
  unfold f_X_move
  by_cases c : h 0 9 = 0
  · rw [if_pos c]
    obtain ⟨⟨n, r⟩, -, -⟩ := id hR
    refine ⟨-1, h, jup h 24 0 0, rfl, ?_, RR_0 hR⟩
    unfold f_M_move
    rw [jup_sn _ _ _ (by decide), if_pos ((RA_good r).1.mp c)]
  · rw [if_neg c]
    by_cases c1 : a < 0
    · rw [if_pos c1]
      refine ⟨-1, h, jup h 24 0 0, rfl, ?_, RR_0 hR⟩
      unfold f_M_move
      by_cases c8 : jup h 24 0 0 24 8 = 0
      · rw [if_pos c8]
      · rw [if_neg c8, if_pos c1]
    · rw [if_neg c1]
      obtain ⟨g, n, t1, t2, el, rr, ra, rg, e0, e1, ra0, rg0, e2, e3, en⟩ := gather_rel hR c
      obtain ⟨p1, p2, p3, p4, p5⟩ := RG_pos rg0
      have g8 : ¬ jup g 24 0 0 24 8 = 0 := fun q => by
        have := (RA_good ra0).1.mpr q
        rw [jup_n _ _ _ (by decide), e0] at this
        exact c this
      have hL : becL (lgX h) := lg_bec _ _ _ _
      obtain ⟨i, rfl⟩ : ∃ i : Nat, a = (i : Int) := ⟨a.toNat, by omega⟩
      obtain ⟨w, w1, w2⟩ := cdM_ok (jup g 24 0 0) (show n < 304 by have := ra0.1; omega) p3 i (by have := ha.2; omega)
      have w2' : cdS (lgX h) i w := by
        refine cdS_c (fun f x c hf hx => ?_) w2
        have := RG_lg rg0 f x c hf hx
        have e0 : lgX (jup g 24 0 0) = lgX h := by rw [← el]; unfold lgX; rw [jup_n _ _ _ (by decide), jup_n _ _ _ (by decide)]
        rw [e0] at this
        exact this.symm
      have fm : f_M_move g (i : Int) = some (w, jup g 24 0 0) := by
        unfold f_M_move
        rw [if_neg g8, if_neg c1, ra0.2.2.1, w1, obs]
      rw [t1, obs]
      show ∃ v g' m, (if (i : Int) < ((nm (lgX h) : Nat) : Int) then (f_Mt_codeOf g (i : Int)).bind _ else _) = _ ∧ _
      by_cases c2 : (i : Int) < ((nm (lgX h) : Nat) : Int)
      · rw [if_pos c2]
        have hnm := nm_le (lgX h)
        obtain ⟨v, v1, v2⟩ := cdX_ok h g (lgX h) t2 hL i (by omega)
        rw [v1, obs]
        refine ⟨v, g, jup g 24 0 0, rfl, ?_, RR_0 rr⟩
        rw [fm, cdS_one v2 w2']
      · rw [if_neg c2]
        refine ⟨-1, g, jup g 24 0 0, rfl, ?_, RR_0 rr⟩
        have : cdS (lgX h) i (-1) := Or.inr ⟨by rw [cc_nm hL]; omega, rfl⟩
        rw [fm, cdS_one w2' this]
theorem q_attackers {h : jH} (hR : RR h) (a b : Int) : ∃ v m, f_X_attackers h a b = some v ∧ f_M_attackers h a b = some (v, m) ∧ RR m := by
  have h0 := RR_0 hR
  obtain ⟨⟨n, r⟩, -, -⟩ := h0
  unfold f_X_attackers f_X_isSquare f_M_attackers
  rw [obs]
  by_cases c1 : a < 0
  · rw [if_pos c1, if_pos rfl, if_pos c1]; exact ⟨_, _, rfl, rfl, RR_0 hR⟩
  rw [if_neg c1, if_neg c1]
  by_cases c2 : 64 ≤ a
  · rw [if_pos c2, if_pos rfl, if_pos c2]; exact ⟨_, _, rfl, rfl, RR_0 hR⟩
  rw [if_neg c2, if_neg (by decide), if_neg c2]
  unfold f_X_isSide
  rw [obs]
  have go : (b = 0 ∨ b = 1) → ∃ v m, ((f_Bd_attacksOn 2 h a b).bind fun v3 => some v3) = some v ∧ f_M_attackers_j24 (jup h 24 0 0) a b = some (v, m) ∧ RR m := by
    intro hb
    obtain ⟨t, rfl⟩ : ∃ t : Nat, a = (t : Int) := ⟨a.toNat, by omega⟩
    have e3 : jup h 24 0 0 3 = h 3 := jup_n _ _ _ (by decide)
    have hE := r.2.2.2.1
    rw [e3] at hE
    obtain ⟨v, v1, v2⟩ := aoX_ok h 2 (BR_c (EqB_sym hE) r.2.2.2.2.1) (show t < 64 by omega) hb
    obtain ⟨w, w1, w2⟩ := aoM_ok (jup h 24 0 0) (show n < 304 by have := r.1; omega) (show t < 64 by omega) r.2.2.2.2.1 hb
    refine ⟨v, jup h 24 0 0, by rw [v1, obs], ?_, RR_0 hR⟩
    unfold f_M_attackers_j24
    rw [r.2.2.1, w1, obs]
    have : v = w := bitsP_eq v2 (bitsP_c w2 (fun s hs => by
      rw [← hE s hs]
      have := attR_c hE hs (show t < 64 by omega)
      constructor
      · rintro ⟨q1, q2⟩; exact ⟨q1, this.mpr q2⟩
      · rintro ⟨q1, q2⟩; exact ⟨q1, this.mp q2⟩))
    rw [this]
  by_cases b0 : b = 0
  · rw [if_pos b0, if_neg (by decide), if_pos b0]; exact go (Or.inl b0)
  rw [if_neg b0, if_neg b0]
  by_cases b1 : b = 1
  · rw [if_pos b1, if_neg (by decide), if_pos b1]; exact go (Or.inr b1)
  rw [if_neg b1, if_pos rfl, if_neg b1]
  exact ⟨_, _, rfl, rfl, RR_0 hR⟩
/-- whether the side to move is in check -/
theorem ck_rel {h : jH} {n : Nat} (hn : n ≤ 300) (rg : RG h n) : ∃ v, f_Bd_isKingAttacked 2 h (h 2 1) = some v ∧ (v = 0 ∨ v = 1) ∧ f_M_isChecked h (n : Int) = some v := by
  obtain ⟨p1, p2, p3, p4, p5⟩ := RG_pos rg
  obtain ⟨-, ⟨c1, c2, c3, c4, c5⟩, -, -⟩ := rg
  have hS := p4.1.2.1.1
  obtain ⟨k, hk⟩ := kgs_uk p4.1.2.2.1 hS
  have hk' := uk_c1 (EqB_sym c1) hk
  rw [← c2] at hk'
  obtain ⟨v, v1, v2, v3⟩ := ikX h 2 p2.1 (by rw [c2]; exact hS) hk'
  obtain ⟨w, w1, w2, w3⟩ := ck_ok h (show n < 304 by omega) p4.1.1 hS hk
  refine ⟨v, v1, v2, ?_⟩
  rw [w1]
  have : v = 1 ↔ w = 1 := by
    rw [v3, w3, c2]
    exact atd_c c1 p2.1 hk.1 (by omega)
  rw [show w = v by omega]
theorem q_checked {h : jH} (hR : RR h) : ∃ v m, f_X_checked h = some v ∧ f_M_checked h = some (v, m) ∧ RR m := by
  have h0 := RR_0 hR
  obtain ⟨⟨n, r⟩, -, -⟩ := h0
  obtain ⟨g1, g2, g3⟩ := RA_good r
  have e0 : jup h 24 0 0 0 = h 0 := jup_n _ _ _ (by decide)
  rw [e0] at g1 g2 g3
  unfold f_X_checked f_M_checked
  by_cases c : h 0 9 = 0
  · rw [if_pos c, if_pos (g1.mp c)]; exact ⟨_, _, rfl, rfl, RR_0 hR⟩
  · rw [if_neg c, if_neg (fun q => c (g1.mpr q))]
    obtain ⟨⟨n', r'⟩, -, -⟩ := id hR
    obtain ⟨-, g2', -⟩ := RA_good r'
    obtain ⟨-, -, rg'⟩ := g2' c
    obtain ⟨-, -, rg⟩ := g2 c
    have en : n' = n := by
      have h1 := r'.2.1
      have h2 := r.2.1
      rw [jup_n _ _ _ (by decide)] at h2
      omega
    subst en
    obtain ⟨v, v1, v2, v3⟩ := ck_rel r'.1 rg'
    obtain ⟨w, w1, w2, w3⟩ := ck_rel r.1 rg
    have : w = v := by
      have e : f_Bd_isKingAttacked 2 (jup h 24 0 0) (jup h 24 0 0 2 1) = f_Bd_isKingAttacked 2 h (h 2 1) := by
        obtain ⟨p1, p2, p3, p4, p5⟩ := RG_pos rg'
        have hS := p1.1.2.1.1
        obtain ⟨k, hk⟩ := kgs_uk p1.1.2.2.1 hS
        have e2 : jup h 24 0 0 2 = h 2 := jup_n _ _ _ (by decide)
        have e3 : jup h 24 0 0 3 = h 3 := jup_n _ _ _ (by decide)
        obtain ⟨x, x1, x2, x3⟩ := ikX h 2 p2.1 hS hk
        obtain ⟨y, y1, y2, y3⟩ := ikX (jup h 24 0 0) 2 (side := h 2 1) (k := k) (by rw [e3]; exact p2.1) hS (by rw [e3]; exact hk)
        rw [e2, x1, y1]
        rw [e3] at y3
        have : x = 1 ↔ y = 1 := x3.trans y3.symm
        rw [show y = x by omega]
      rw [e, v1] at w1
      exact (Option.some.inj w1).symm
    rw [v1, obs, r.2.2.1, w3, obs, this]
    by_cases d : v = 0
    · rw [if_pos d, if_pos d]; exact ⟨_, _, rfl, rfl, RR_0 hR⟩
    · rw [if_neg d, if_neg d]; exact ⟨_, _, rfl, rfl, RR_0 hR⟩
theorem seen_rel {h : jH} {n : Nat} (hn : n ≤ 300) (en : h 24 7 = (n : Int)) (rg : RG h n) : ∃ v, f_Ps_countSame h (n : Int) = some v ∧ f_M_seenOf h = some v := by
  refine ⟨_, cs_ok h hn (fun k => sameP (mb h k) (mb h n) (h 26 k) (h 26 n) (h 27 k) (h 27 n) (h 30 k) (h 30 n)) (fun k hk => ?_), se_ok h en hn⟩
  have g1 := (rg.1 k hk).1.1
  have g2 := (rg.1 n (Nat.le_refl _)).1.1
  exact PW_same g1.1 g2.1 (rg.2.2.2 k hk) (rg.2.2.2 n (Nat.le_refl _)) g1.2.1.1 g2.2.1.1
theorem cs_c {h h' : jH} (e : h' 10 = h 10) {n : Nat} (hn : n ≤ 300) : f_Ps_countSame h' (n : Int) = f_Ps_countSame h (n : Int) := by
  rw [cs_ok h hn (fun k => ∀ q, q < 6 → h 10 (6 * k + q) = h 10 (6 * n + q)) (fun _ _ => Iff.rfl), cs_ok h' hn (fun k => ∀ q, q < 6 → h 10 (6 * k + q) = h 10 (6 * n + q)) (fun _ _ => by rw [e])]
theorem q_seen {h : jH} (hR : RR h) : ∃ v m, f_X_seen h = some v ∧ f_M_seen h = some (v, m) ∧ RR m := by
  have h0 := RR_0 hR
  obtain ⟨⟨n, r⟩, -, -⟩ := h0
  obtain ⟨g1, g2, g3⟩ := RA_good r
  have e0 : jup h 24 0 0 0 = h 0 := jup_n _ _ _ (by decide)
  have e1 : jup h 24 0 0 1 = h 1 := jup_n _ _ _ (by decide)
  rw [e0] at g1 g2 g3
  unfold f_X_seen f_M_seen
  by_cases c : h 0 9 = 0
  · rw [if_pos c, if_pos (g1.mp c)]; exact ⟨_, _, rfl, rfl, RR_0 hR⟩
  · rw [if_neg c, if_neg (fun q => c (g1.mpr q))]
    obtain ⟨-, -, rg⟩ := g2 c
    have r1 := r.2.1
    rw [e1] at r1
    obtain ⟨v, v1, v2⟩ := seen_rel r.1 r.2.2.1 rg
    have := cs_c (h := h) (h' := jup h 24 0 0) (jup_n _ _ _ (by decide)) r.1
    rw [v1] at this
    rw [r1, ← this, obs, v2, obs]
    exact ⟨_, _, rfl, rfl, RR_0 hR⟩
theorem wt_c {b b' : Nat → Int} (h : EqB b b') : sm (fun y => wt (b y)) 64 = sm (fun y => wt (b' y)) 64 := sm_congr 64 (fun i hi => by rw [h i hi])
theorem q_status {h : jH} (hR : RR h) : ∃ v g m, f_X_status h = some (v, g) ∧ f_M_status g = some (v, m) ∧ RR m := by
  unfold f_X_status
  by_cases c : h 0 9 = 0
  · rw [if_pos c]
    obtain ⟨⟨n, r⟩, -, -⟩ := id hR
    refine ⟨-1, h, jup h 24 0 0, rfl, ?_, RR_0 hR⟩
    unfold f_M_status
    rw [jup_sn _ _ _ (by decide), if_pos ((RA_good r).1.mp c)]
  · rw [if_neg c]
    obtain ⟨g, n, t1, t2, el, rr, ra, rg, e0, e1, ra0, rg0, e2, e3, en⟩ := gather_rel hR c
    obtain ⟨p1, p2, p3, p4, p5⟩ := RG_pos rg0
    have g8 : ¬ jup g 24 0 0 24 8 = 0 := fun q => by
      have := (RA_good ra0).1.mpr q
      rw [jup_n _ _ _ (by decide), e0] at this
      exact c this
    have hn := ra0.1
    have fm : f_M_status g = (if ((nm (lgX h) : Nat) : Int) = 0 then (f_M_isChecked (jup g 24 0 0) (n : Int)).bind fun v4 => some (if v4 = 0 then (2, jup g 24 0 0) else (1, jup g 24 0 0)) else if g 29 n < 150 then (f_M_seenOf (jup g 24 0 0)).bind fun v2 => if v2 < 5 then (f_M_isDead (jup g 24 0 0)).bind fun v3 => some (if v3 = 0 then (0, jup g 24 0 0) else (5, jup g 24 0 0)) else some (4, jup g 24 0 0) else some (3, jup g 24 0 0)) := by
      unfold f_M_status
      rw [if_neg g8, ra0.2.2.1, mo_ok _ (by omega) p3, obs, en]
      have e7 : jup g 24 0 0 24 7 = (n : Int) := ra0.2.2.1
      have e29 : jup g 24 0 0 29 = g 29 := jup_n _ _ _ (by decide)
      show (if ((nm (lgX h) : Nat) : Int) = 0 then (f_M_isChecked (jup g 24 0 0) (jup g 24 0 0 24 7)).bind _ else jgd (0 ≤ jup g 24 0 0 24 7 ∧ jup g 24 0 0 24 7 < 304) (if jup g 24 0 0 29 (jup g 24 0 0 24 7).toNat < 150 then _ else _)) = _
      rw [e7, jgd_pos (by omega), Int.toNat_natCast, e29]
    have e7g : g 24 7 = (n : Int) := ra.2.2.1
    have e1g : g 1 6 = (n : Int) := ra.2.1
    obtain ⟨-, ⟨k1, k2, k3, k4, k5⟩, -, -⟩ := id rg
    rw [t1, obs]
    show ∃ v g' m, (if ((nm (lgX h) : Nat) : Int) = 0 then (f_Bd_isKingAttacked 2 g (g 2 1)).bind _ else if g 2 4 < 150 then (f_Ps_countSame g (g 1 6)).bind _ else some (3, g)) = _ ∧ _
    by_cases z : ((nm (lgX h) : Nat) : Int) = 0
    · rw [if_pos z]
      obtain ⟨v, v1, v2, v3⟩ := ck_rel ra.1 rg
      obtain ⟨w, w1, w2, w3⟩ := ck_rel ra0.1 rg0
      have ev : w = v := by
        obtain ⟨q1, q2, q3, q4, q5⟩ := RG_pos rg
        have hS := q1.1.2.1.1
        obtain ⟨k, hk⟩ := kgs_uk q1.1.2.2.1 hS
        have f2 : jup g 24 0 0 2 = g 2 := jup_n _ _ _ (by decide)
        have f3 : jup g 24 0 0 3 = g 3 := jup_n _ _ _ (by decide)
        obtain ⟨x, x1, x2, x3⟩ := ikX g 2 q2.1 hS hk
        obtain ⟨y, y1, y2, y3⟩ := ikX (jup g 24 0 0) 2 (side := g 2 1) (k := k) (by rw [f3]; exact q2.1) hS (by rw [f3]; exact hk)
        rw [f2, y1] at w1
        rw [x1] at v1
        have v1 := Option.some.inj v1
        have w1 := Option.some.inj w1
        rw [f3] at y3
        have : x = 1 ↔ y = 1 := x3.trans y3.symm
        omega
      rw [v1, obs]
      by_cases d : v = 0
      · rw [if_pos d]
        refine ⟨_, _, _, rfl, ?_, RR_0 rr⟩
        rw [fm, if_pos z, w3, obs, ev, if_pos d]
      · rw [if_neg d]
        refine ⟨_, _, _, rfl, ?_, RR_0 rr⟩
        rw [fm, if_pos z, w3, obs, ev, if_neg d]
    · rw [if_neg z]
      by_cases d : g 2 4 < 150
      · rw [if_pos d, e1g]
        obtain ⟨v, v1, v2⟩ := seen_rel ra0.1 ra0.2.2.1 rg0
        have := cs_c (h := g) (h' := jup g 24 0 0) (jup_n _ _ _ (by decide)) ra0.1
        rw [v1] at this
        rw [← this, obs]
        by_cases d2 : v < 5
        · rw [if_pos d2]
          obtain ⟨x, x1, x2, x3⟩ := bare_ok g (RG_pos rg).2.1.1
          obtain ⟨y, y1, y2, y3⟩ := dd_ok (jup g 24 0 0) ra0.2.2.1 (by omega) p4.1.1
          have exy : x = y := by
            have hm : mb (jup g 24 0 0) n = mb g n := mb_e (jup_n _ _ _ (by decide)) n
            rw [hm, ← wt_c k1] at y3
            have : x = 1 ↔ y = 1 := x3.trans y3.symm
            omega
          rw [x1, obs]
          by_cases d3 : x = 0
          · rw [if_pos d3]
            refine ⟨_, _, _, rfl, ?_, RR_0 rr⟩
            rw [fm, if_neg z, if_pos (by rw [← k5]; exact d), v2, obs, if_pos d2, y1, obs, ← exy, if_pos d3]
          · rw [if_neg d3]
            refine ⟨_, _, _, rfl, ?_, RR_0 rr⟩
            rw [fm, if_neg z, if_pos (by rw [← k5]; exact d), v2, obs, if_pos d2, y1, obs, ← exy, if_neg d3]
        · rw [if_neg d2]
          refine ⟨_, _, _, rfl, ?_, RR_0 rr⟩
          rw [fm, if_neg z, if_pos (by rw [← k5]; exact d), v2, obs, if_neg d2]
      · rw [if_neg d]
        refine ⟨_, _, _, rfl, ?_, RR_0 rr⟩
        rw [fm, if_neg z, if_neg (by rw [← k5]; exact d)]
theorem q_character {h : jH} (hR : RR h) (a : Int) : ∃ v m, f_X_character h a = some v ∧ f_M_character h a = some (v, m) ∧ RR m := by
  have h0 := RR_0 hR
  obtain ⟨-, -, M, p1, p2, p3, p4⟩ := h0
  have e22 : jup h 24 0 0 22 = h 22 := jup_n _ _ _ (by decide)
  have e23 : jup h 24 0 0 23 = h 23 := jup_n _ _ _ (by decide)
  rw [e22] at p2
  unfold f_X_character f_Tx_letterAt f_M_character
  by_cases c1 : a < 0
  · rw [if_pos c1, obs, if_pos c1]; exact ⟨_, _, rfl, rfl, RR_0 hR⟩
  · rw [if_neg c1, if_neg c1, p2, p3]
    by_cases c2 : a < (M : Int)
    · rw [if_pos c2, jgd_pos (by omega), obs, if_neg (by omega), jgd_pos (by omega)]
      have := p4 a.toNat (by omega)
      rw [e23] at this
      exact ⟨_, _, rfl, by rw [this], RR_0 hR⟩
    · rw [if_neg c2, obs, if_pos (by omega)]; exact ⟨_, _, rfl, rfl, RR_0 hR⟩
