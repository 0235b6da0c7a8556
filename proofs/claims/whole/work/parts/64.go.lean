/-! the reference goes on -/
theorem FrR_lay (h : jH) {q s : Nat} (v : Int) (hs : s < 64) : FrR h (lay1 h q s v) q := by
  refine ⟨fun a a1 _ _ _ _ => lay_o h q s v a1, fun r hr => ⟨fun y hy => ?_, ?_, ?_, ?_, ?_⟩⟩
  · unfold lay1; rw [mb_up h v hs hy, if_neg (fun z => hr z.1)]
  all_goals (rw [lay_o h q s v (by decide)])
theorem sz2 {f x : Nat} : (if 0 ≤ (x : Int) - (f : Int) then (x : Int) - (f : Int) else -((x : Int) - (f : Int))) = 2 ↔ (x = f + 2 ∨ f = x + 2) := by
  split <;> omega
theorem FrR_mb {h g : jH} {q r : Nat} (h1 : FrR h g q) (hr : r ≠ q) : EqB (mb g r) (mb h r) := fun y hy => (h1.2 r hr).1 y hy
theorem go_ok (h : jH) {p f x c : Nat} (hp : p + 1 < 304) (hf : f < 64) (hx : x < 64) (hc : c ≤ 4) (hP : PosM h p) (hl : lgM h p f x c) (hct : 0 ≤ h 29 p ∧ h 29 p < 100000) :
    ∃ h' v, f_M_go h (p : Int) (f : Int) (x : Int) (c : Int) = some h' ∧ FrR h h' (p + 1) ∧ vicR (mb h p) (h 26 p) (h 28 p) f x v ∧ EqB (mb h' (p + 1)) (nbv (mb h p) (h 26 p) f x c v) ∧ h' 26 (p + 1) = 1 - h 26 p ∧ h' 27 (p + 1) = nr (h 27 p) f x ∧ h' 28 (p + 1) = nf (mb h p) f x ∧ h' 29 (p + 1) = nct (mb h p) f x (h 29 p) := by
  have hP0 := hP
  obtain ⟨hB, ⟨hS, hr0, hr1, hf0, hf1⟩, hK, hpw, hrg, hfl⟩ := hP
  have hm := hl.1
  have ho := hm.1
  have hn := hm.2.1
  have hfx : f ≠ x := fun e => hn (e ▸ ho)
  have hcm : csh (mb h p) f x → (f = 4 ∨ f = 60) ∧ f = kh (h 26 p) ∧ (x = f + 2 ∨ f = x + 2) ∧ mb h p x = 0 ∧ mb h p ((f + x) / 2) = 0 ∧ mb h p f = kp (h 26 p) ∧ mb h p (crk f x) = 4 + 6 * h 26 p := fun q => cas_mt hP0 hf (csh_cas hf hx hm q)
  -- what is laid on the square to which the man goes
  have hval : (if (c : Int) ≤ 0 then mb h p f else jadd (jadd (c : Int) 1) (jmul 6 (h 26 p))) = (if 0 < c then (c : Int) + 1 + 6 * h 26 p else mb h p f) := by
    by_cases d : 0 < c
    · rw [if_neg (by omega), if_pos d, jadd_eq (a := (c : Int)) (by omega) (by omega), jmul_eq (by omega) (by omega), jadd_eq (by omega) (by omega)]
    · rw [if_pos (by omega), if_neg d]
  have hvr : 0 ≤ (if 0 < c then (c : Int) + 1 + 6 * h 26 p else mb h p f) ∧ (if 0 < c then (c : Int) + 1 + 6 * h 26 p else mb h p f) ≤ 12 := by
    clear hcm hl hm hP0
    split
    · rcases hS with e | e <;> rw [e] <;> omega
    · exact hB f hf
  unfold f_M_go
  rw [jadd_eq (by omega) (by omega), show (p : Int) + 1 = ((p + 1 : Nat) : Int) by omega]
  obtain ⟨g, g1, g2, g3, g4, g5, g6, g7⟩ := cp_ok h (p := p) (q := p + 1) (by omega) hp hB
  rw [g1]
  simp only [obs]
  have hpq : p ≠ p + 1 := by omega
  obtain ⟨r1, r2, r3, r4, r5⟩ := g2.2 p hpq
  have eqP : EqB (mb g p) (mb h p) := r1
  have hBg : BR (mb g p) := BR_c (EqB_sym eqP) hB
  rw [jgd_pos (by omega), Int.toNat_natCast, pc_ok g (by omega) hf, eqP f hf]
  simp only [obs]
  rw [kdM_ok g (hB f hf).1 (hB f hf).2]
  simp only [obs]
  unfold f_M_go_j42
  obtain ⟨w, w1, w2, w3⟩ := ib_ok g (p := p) (by omega) hf hx hBg (by rw [r4]; exact hf1)
  rw [r2, r4, beh_c eqP hf hx] at w3
  rw [w1]
  simp only [obs]
  rw [pc_ok g (by omega) hx, eqP x hx, r2]
  simp only [obs]
  unfold f_M_go_j67
  rw [ly_ok g hp hf (by omega) (by omega)]
  simp only [obs]
  unfold f_M_go_j101
  rw [hval]
  generalize hV : (if 0 < c then (c : Int) + 1 + 6 * h 26 p else mb h p f) = V at hvr
  rw [ly_ok _ hp hx hvr.1 hvr.2]
  simp only [obs]
  -- from here on: a board that is nbs
  have tail : ∀ (g' : jH) (v : Nat), FrR g g' (p + 1) → (∀ a, a ≠ 25 → g' a = g a) → EqB (mb g' (p + 1)) (nbs (mb h p) (h 26 p) f x c v) → vicR (mb h p) (h 26 p) (h 28 p) f x v →
      ∃ h' v, f_M_go_j128 g' (p : Int) (f : Int) (x : Int) ((p + 1 : Nat) : Int) (h 26 p) (mb h p f) (if kd (mb h p f) = 1 then 1 else 0) (if mb h p x = 0 then 0 else 1) = some h' ∧ FrR h h' (p + 1) ∧ vicR (mb h p) (h 26 p) (h 28 p) f x v ∧ EqB (mb h' (p + 1)) (nbv (mb h p) (h 26 p) f x c v) ∧ h' 26 (p + 1) = 1 - h 26 p ∧ h' 27 (p + 1) = nr (h 27 p) f x ∧ h' 28 (p + 1) = nf (mb h p) f x ∧ h' 29 (p + 1) = nct (mb h p) f x (h 29 p) := by
    intro g' v k1 k2 k3 k4
    have fin : ∀ g'' : jH, FrR g g'' (p + 1) → (∀ a, a ≠ 25 → g'' a = g a) → EqB (mb g'' (p + 1)) (nbv (mb h p) (h 26 p) f x c v) → ∃ h' v, f_M_go_j187 g'' (p : Int) (f : Int) (x : Int) ((p + 1 : Nat) : Int) (h 26 p) (if kd (mb h p f) = 1 then 1 else 0) (if mb h p x = 0 then 0 else 1) = some h' ∧ FrR h h' (p + 1) ∧ vicR (mb h p) (h 26 p) (h 28 p) f x v ∧ EqB (mb h' (p + 1)) (nbv (mb h p) (h 26 p) f x c v) ∧ h' 26 (p + 1) = 1 - h 26 p ∧ h' 27 (p + 1) = nr (h 27 p) f x ∧ h' 28 (p + 1) = nf (mb h p) f x ∧ h' 29 (p + 1) = nct (mb h p) f x (h 29 p) := by
      intro g'' m1 m2 m3
      have e27 : g'' 27 p = h 27 p := by rw [m2 27 (by decide)]; exact r3
      have e29 : g'' 29 p = h 29 p := by rw [m2 29 (by decide)]; exact r5
      have hgo := g187_ok g'' (p := p) (f := f) (x := x) (side := h 26 p) (pw := if kd (mb h p f) = 1 then 1 else 0) (tk := if mb h p x = 0 then 0 else 1) hp hf hx hS (by split <;> omega) (by split <;> omega) (by rw [e29]; exact hct)
      refine ⟨_, v, hgo, ?_, k4, ?_, ?_, ?_, ?_, ?_⟩
      · refine FrR_trans (FrR_trans g2 m1) ⟨fun a a1 a2 a3 a4 a5 => ?_, fun r hr => ⟨fun y hy => ?_, ?_, ?_, ?_, ?_⟩⟩
        · rw [jup_n _ _ _ a5, jup_n _ _ _ a4, jup_n _ _ _ a3, jup_n _ _ _ a2]
        · rw [mb_o _ _ _ (by decide), mb_o _ _ _ (by decide), mb_o _ _ _ (by decide), mb_o _ _ _ (by decide)]
        · rw [jup_n _ _ _ (by decide), jup_n _ _ _ (by decide), jup_n _ _ _ (by decide), jup_sn _ _ _ hr]
        · rw [jup_n _ _ _ (by decide), jup_n _ _ _ (by decide), jup_sn _ _ _ hr, jup_n _ _ _ (by decide)]
        · rw [jup_n _ _ _ (by decide), jup_sn _ _ _ hr, jup_n _ _ _ (by decide), jup_n _ _ _ (by decide)]
        · rw [jup_sn _ _ _ hr, jup_n _ _ _ (by decide), jup_n _ _ _ (by decide), jup_n _ _ _ (by decide)]
      · rw [mb_o _ _ _ (by decide), mb_o _ _ _ (by decide), mb_o _ _ _ (by decide), mb_o _ _ _ (by decide)]; exact m3
      · rw [jup_n _ _ _ (by decide), jup_n _ _ _ (by decide), jup_n _ _ _ (by decide), jup_ss]
      · rw [jup_n _ _ _ (by decide), jup_n _ _ _ (by decide), jup_ss, e27]
      · rw [jup_n _ _ _ (by decide), jup_ss]
        unfold nf
        by_cases d : kd (mb h p f) = 1
        · simp [d]
        · simp [d]
      · rw [jup_ss, e29]
        unfold nct
        by_cases d : kd (mb h p f) = 1
        · simp [d]
        · by_cases d2 : mb h p x = 0
          · simp [d, d2]
          · simp [d, d2]
    unfold f_M_go_j128
    rw [kdM_ok g' (hB f hf).1 (hB f hf).2]
    simp only [obs]
    by_cases d6 : kd (mb h p f) = 6
    · rw [if_pos d6]
      unfold f_M_size
      rw [jsub_eq (by omega) (by omega), jneg_eq (by omega) (by omega)]
      simp only [obs]
      by_cases d2 : x = f + 2 ∨ f = x + 2
      · rw [if_pos (sz2.mpr d2)]
        have hcs : csh (mb h p) f x := ⟨d6, d2⟩
        obtain ⟨q1, q2, q3, q4, q5, q6, q7⟩ := hcm hcs
        have ecr : (if (x : Int) ≤ (f : Int) then jsub (f : Int) 4 else jadd (f : Int) 3) = ((crk f x : Nat) : Int) := by
          rw [jsub_eq (by omega) (by omega), jadd_eq (by omega) (by omega)]
          unfold crk
          split <;> split <;> omega
        have hcr : crk f x < 64 := by unfold crk; split <;> omega
        have hm64 : (f + x) / 2 < 64 := by omega
        rw [ecr]
        unfold f_M_go_j165
        rw [ly_ok g' hp hcr (by omega) (by omega)]
        simp only [obs]
        rw [jadd_eq (a := (f : Int)) (by omega) (by omega), jdiv_eq (by omega) (by omega) (by omega) (by omega), show ((f : Int) + (x : Int)) / 2 = (((f + x) / 2 : Nat) : Int) by omega, jmul_eq (by omega) (by omega), jadd_eq (by omega) (by omega), ly_ok _ hp hm64 (by omega) (by omega)]
        simp only [obs]
        refine fin _ (FrR_trans k1 (FrR_trans (FrR_lay g' 0 hcr) (FrR_lay _ _ hm64))) (fun a ha => by rw [lay_o _ _ _ _ ha, lay_o _ _ _ _ ha]; exact k2 a ha) (fun y hy => ?_)
        rw [lay_mb, lay_mb, k3 y hy]
        unfold nbv
        rw [if_pos (show kd (mb h p f) = 6 ∧ (x = f + 2 ∨ f = x + 2) from ⟨d6, d2⟩)]
      · rw [if_neg (fun z => d2 (sz2.mp z))]
        refine fin g' k1 k2 (fun y hy => ?_)
        rw [k3 y hy]
        unfold nbv
        rw [if_neg (show ¬ (kd (mb h p f) = 6 ∧ (x = f + 2 ∨ f = x + 2)) from fun z => d2 z.2)]
    · rw [if_neg d6]
      refine fin g' k1 k2 (fun y hy => ?_)
      rw [k3 y hy]
      unfold nbv
      rw [if_neg (show ¬ (kd (mb h p f) = 6 ∧ (x = f + 2 ∨ f = x + 2)) from fun z => d6 z.1)]
  by_cases d : w = 0
  · rw [if_pos d]
    have nb : ¬ beh (mb h p) (h 26 p) (h 28 p) f x := fun q => by have := w3.mpr q; omega
    refine tail _ x (FrR_trans (FrR_lay g 0 hf) (FrR_lay _ V hx)) (fun a ha => by rw [lay_o _ _ _ _ ha, lay_o _ _ _ _ ha]) (fun y hy => ?_) (Or.inr ⟨nb, rfl⟩)
    rw [lay_mb, lay_mb, g3 y hy]
    unfold nbs
    rw [← hV]
    by_cases e1 : y = x
    · rw [if_pos e1, if_pos e1]
    · rw [if_neg e1, if_neg e1, if_neg e1]
  · rw [if_neg d]
    have yb : beh (mb h p) (h 26 p) (h 28 p) f x := w3.mp (by omega)
    obtain ⟨z1, z2, z3, z4, z5⟩ := fil_beh hS hB hf hx hf1 hfl ho yb
    rw [jdiv_eq (by omega) (by omega) (by omega) (by omega), jmul_eq (by omega) (by omega), jrem_eq (by omega) (by omega) (by omega) (by omega), jadd_eq (by omega) (by omega), show (f : Int) / 8 * 8 + (x : Int) % 8 = ((eps f x : Nat) : Int) by unfold eps; omega, ly_ok _ hp z3 (by omega) (by omega)]
    simp only [obs]
    refine tail _ (eps f x) (FrR_trans (FrR_trans (FrR_lay g 0 hf) (FrR_lay _ V hx)) (FrR_lay _ 0 z3)) (fun a ha => by rw [lay_o _ _ _ _ ha, lay_o _ _ _ _ ha, lay_o _ _ _ _ ha]) (fun y hy => ?_) (Or.inl ⟨yb, rfl⟩)
    rw [lay_mb, lay_mb, lay_mb, g3 y hy]
    unfold nbs
    rw [← hV]
    by_cases e1 : y = x
    · rw [if_pos e1, if_pos e1, if_neg (by omega)]
    · rw [if_neg e1, if_neg e1]
      by_cases e2 : y = f
      · rw [if_pos e2, if_pos e2]; split <;> rfl
      · rw [if_neg e2, if_neg e2]
