/-! the class takes a move back -/
theorem st4_o (g : jH) (a b c d : Int) {z : Nat} (hz : z ≠ 2) : st4 g a b c d z = g z := by
  unfold st4; rw [jup_n _ _ _ hz, jup_n _ _ _ hz, jup_n _ _ _ hz, jup_n _ _ _ hz]
theorem st4_1 (g : jH) (a b c d : Int) : st4 g a b c d 2 1 = a := by
  unfold st4; rw [jup_sn _ _ _ (by decide), jup_sn _ _ _ (by decide), jup_sn _ _ _ (by decide), jup_ss]
theorem st4_2 (g : jH) (a b c d : Int) : st4 g a b c d 2 2 = b := by
  unfold st4; rw [jup_sn _ _ _ (by decide), jup_sn _ _ _ (by decide), jup_ss]
theorem st4_3 (g : jH) (a b c d : Int) : st4 g a b c d 2 3 = c := by
  unfold st4; rw [jup_sn _ _ _ (by decide), jup_ss]
theorem st4_4 (g : jH) (a b c d : Int) : st4 g a b c d 2 4 = d := by
  unfold st4; rw [jup_ss]
theorem tb_ok (h : jH) {b : Nat → Int} {side rights file count : Int} {n f x c v : Nat} (hf : f < 64) (hx : x < 64) (hc : c ≤ 4) (hP : PosR b side rights file) (hl : lgl b side rights file f x (c : Int)) (hn : n < 301) (en : h 1 6 = (n : Int) + 1) (hv : vicR b side file f x v) (hE : EqB (h 3) (nbv b side f x c v)) (hs : h 2 1 = 1 - side) (hh : hist h n (code3 f x c) (b v) rights file count) :
    ∃ h', f_Gm_takeBack h = some h' ∧ (∀ a, a ≠ 1 → a ≠ 2 → a ≠ 3 → h' a = h a) ∧ h' 1 6 = (n : Int) ∧ curX h' b side rights file count := by
  have hP0 := hP
  obtain ⟨hB, ⟨hS, hr0, hr1, hf0, hf1⟩, hK, hpw, hrg, hfl⟩ := hP
  have hm := hl.1
  have hfx : f ≠ x := fun e => hm.2.1 (e ▸ hm.1)
  have hcm : csh b f x → (f = 4 ∨ f = 60) ∧ f = kh side ∧ (x = f + 2 ∨ f = x + 2) ∧ b x = 0 ∧ b ((f + x) / 2) = 0 ∧ b f = kp side ∧ b (crk f x) = 4 + 6 * side := fun q => cas_mt hP0 hf (csh_cas hf hx hm q)
  have vf : v < 64 ∧ v ≠ f ∧ (v ≠ x → b x = 0) := by
    rcases hv with ⟨q, e⟩ | ⟨q, e⟩
    · have w := fil_beh hS hB hf hx hf1 hfl hm.1 q
      subst e
      exact ⟨w.2.2.1, w.2.2.2.1, fun _ => w.2.1⟩
    · subst e
      exact ⟨hx, fun e => hfx e.symm, fun e => absurd rfl e⟩
  have hpf : 0 < c → b f = 1 + 6 * side := by
    intro c0
    have k1 : kd (b f) = 1 := by
      rcases hm.2.2 with q | q
      · exact q.1
      · exact absurd q.2.1 (by omega)
    have k2 := hm.1
    have b0 := hB f hf
    clear hP0 hm hcm hE hh hl hB hK hpw hrg hfl hv
    unfold kd at k1
    unfold sd at k2
    split at k1 <;> split at k2 <;> (try split at k2) <;> omega
  obtain ⟨d1, d2, d3⟩ := code_dec hf hx hc
  have hcc : code3 f x c < 4096 ↔ c = 0 := by unfold code3; omega
  obtain ⟨t1, t2, t3, t4, t5⟩ := hh
  unfold f_Gm_takeBack
  rw [en, if_neg (by omega), jsub_eq (by omega) (by omega), show (n : Int) + 1 - 1 = (n : Int) by omega]
  generalize hg : jup h 1 6 (n : Int) = g0
  have e1 : g0 1 6 = (n : Int) := by rw [← hg]; exact jup_ss _ _ _ _
  have eo : ∀ a, a ≠ 1 → g0 a = h a := fun a ha => by rw [← hg]; exact jup_n _ _ _ ha
  rw [e1, Int.toNat_natCast, eo 2 (by decide), eo 4 (by decide), eo 6 (by decide), eo 7 (by decide), eo 8 (by decide), t1, t3, t4, t5, hs, d1, d2]
  rw [jgd_pos (by omega), show f_X_otherSide g0 (1 - side) = some (jsub 1 (1 - side)) from rfl, jsub_eq (by omega) (by omega)]
  simp only [obs]
  rw [jgd_pos (by omega), jgd_pos (by omega), jgd_pos (by omega), show (1 : Int) - (1 - side) = side by omega]
  have es : f_Bd_enterState 2 g0 side rights file count = some (st4 g0 side rights file count) := rfl
  rw [es]
  simp only [obs]
  generalize hS' : st4 g0 side rights file count = S
  have s3 : S 3 = h 3 := by rw [← hS', st4_o _ _ _ _ _ (by decide)]; exact eo 3 (by decide)
  rw [sh_ok S hx hf]
  simp only [obs]
  have tail : ∀ g : jH, (∀ a, a ≠ 3 → g a = S a) → (∀ y, y < 64 → g 3 y = if y = x then 0 else if y = f then b f else nbv b side f x c v y) → ∃ h', f_Gm_takeBack_j118 g (f : Int) (x : Int) = some h' ∧ (∀ a, a ≠ 1 → a ≠ 2 → a ≠ 3 → h' a = h a) ∧ h' 1 6 = (n : Int) ∧ curX h' b side rights file count := by
    intro g k1 k2
    have g2 : g 2 1 = side ∧ g 2 2 = rights ∧ g 2 3 = file ∧ g 2 4 = count := by
      rw [k1 2 (by decide), ← hS']; exact ⟨st4_1 _ _ _ _ _, st4_2 _ _ _ _ _, st4_3 _ _ _ _ _, st4_4 _ _ _ _ _⟩
    have go : ∀ a, a ≠ 1 → a ≠ 2 → a ≠ 3 → g a = h a := fun a q1 q2 q3 => by
      rw [k1 a q3, ← hS', st4_o _ _ _ _ _ q2]; exact eo a q1
    have g1 : g 1 6 = (n : Int) := by
      rw [k1 1 (by decide), ← hS', st4_o _ _ _ _ _ (by decide)]; exact e1
    have gf : g 3 f = b f := by rw [k2 f hf, if_neg hfx, if_pos rfl]
    have fin : ∀ g' : jH, (∀ a, a ≠ 3 → g' a = g a) → EqB (g' 3) b → ∃ h', some g' = some h' ∧ (∀ a, a ≠ 1 → a ≠ 2 → a ≠ 3 → h' a = h a) ∧ h' 1 6 = (n : Int) ∧ curX h' b side rights file count := by
      intro g' m1 m2
      refine ⟨g', rfl, fun a q1 q2 q3 => by rw [m1 a q3]; exact go a q1 q2 q3, by rw [m1 1 (by decide)]; exact g1, m2, ?_⟩
      rw [m1 2 (by decide)]; exact g2
    unfold f_Gm_takeBack_j118
    rw [vsq_ok g hf hx (by rw [gf]; exact (hB f hf).1) (by rw [gf]; exact (hB f hf).2) (by rw [g2.1]; exact hS) (by rw [g2.2.2.1]; exact hf0) (by rw [g2.2.2.1]; exact hf1), gf, g2.1, g2.2.2.1, vsq_v hP0 hf hx hl hv]
    simp only [obs]
    rw [g1, jgd_pos (by omega), jgd_pos (by omega), jgd_pos (by omega), Int.toNat_natCast, Int.toNat_natCast, Int.toNat_natCast, go 5 (by decide) (by decide) (by decide), t2]
    have jf : jup g 3 v (b v) 3 f = b f := by rw [jup_sn _ _ _ (fun e => vf.2.1 e.symm)]; exact gf
    rw [jf, ic_ok _ (hB f hf).1 (hB f hf).2 hf hx]
    by_cases d : kd (b f) = 6 ∧ (x = f + 2 ∨ f = x + 2)
    · rw [if_pos d, obs, if_neg (show ¬ (1 : Int) = 0 by decide)]
      obtain ⟨q1, q2, q3, q4, q5, q6, q7⟩ := hcm d
      have hcr : crk f x < 64 := by unfold crk; split <;> omega
      have hcn : crk f x ≠ x ∧ crk f x ≠ f ∧ crk f x ≠ (f + x) / 2 := by unfold crk; split <;> omega
      have hm64 : (f + x) / 2 < 64 := by omega
      have hvx : v = x := by
        rcases hv with q | q
        · have := q.1.1; omega
        · exact q.2
      rw [crf_ok _ q1]
      simp only [obs]
      rw [jadd_eq (by omega) (by omega), jdiv_eq (by omega) (by omega) (by omega) (by omega), show ((f : Int) + (x : Int)) / 2 = (((f + x) / 2 : Nat) : Int) by omega, sh_ok _ hm64 hcr]
      simp only [obs]
      refine fin _ (fun a ha => by rw [jup_n _ _ _ ha, jup_n _ _ _ ha, jup_n _ _ _ ha]) (fun y hy => ?_)
      have er : jup g 3 v (b v) 3 ((f + x) / 2) = 4 + 6 * side := by
        rw [jup_sn _ _ _ (by omega), k2 _ hm64, if_neg (by omega), if_neg (by omega)]
        unfold nbv
        rw [if_pos d, if_pos rfl]
      rw [jup_s, jup_s, er, jup_s, k2 y hy]
      by_cases e1 : y = (f + x) / 2
      · rw [if_pos e1, e1, q5]
      · rw [if_neg e1]
        by_cases e2 : y = crk f x
        · rw [if_pos e2, e2, q7]
        · rw [if_neg e2]
          by_cases e3 : y = v
          · rw [if_pos e3, e3]
          · rw [if_neg e3, if_neg (by omega)]
            by_cases e4 : y = f
            · rw [if_pos e4, e4]
            · rw [if_neg e4]
              unfold nbv
              rw [if_pos d, if_neg e1, if_neg e2]
              unfold nbs
              rw [if_neg (by omega), if_neg e4, if_neg e3]
    · rw [if_neg d, obs, if_pos (show (0 : Int) = 0 from rfl)]
      refine fin _ (fun a ha => by rw [jup_n _ _ _ ha]) (fun y hy => ?_)
      rw [jup_s, k2 y hy]
      by_cases e3 : y = v
      · rw [if_pos e3, e3]
      · rw [if_neg e3]
        by_cases e4 : y = x
        · rw [if_pos e4, e4, vf.2.2 (by omega)]
        · rw [if_neg e4]
          by_cases e5 : y = f
          · rw [if_pos e5, e5]
          · rw [if_neg e5]
            unfold nbv
            rw [if_neg d]
            unfold nbs
            rw [if_neg e4, if_neg e5, if_neg e3]
  have nx : nbv b side f x 0 v x = b f := by
    unfold nbv
    by_cases d : kd (b f) = 6 ∧ (x = f + 2 ∨ f = x + 2)
    · have := hcm d
      have hcn : crk f x ≠ x := by unfold crk; split <;> omega
      rw [if_pos d, if_neg (by omega), if_neg (by omega)]; unfold nbs; rw [if_pos rfl, if_neg (by omega)]
    · rw [if_neg d]; unfold nbs; rw [if_pos rfl, if_neg (by omega)]
  by_cases z : c = 0
  · rw [if_pos (hcc.mpr z)]
    refine tail _ (fun a ha => by rw [jup_n _ _ _ ha, jup_n _ _ _ ha]) (fun y hy => ?_)
    rw [jup_s, jup_s, s3, hE x hx, hE y hy]
    by_cases e1 : y = x
    · rw [if_pos e1, if_pos e1]
    · rw [if_neg e1, if_neg e1]
      by_cases e2 : y = f
      · rw [if_pos e2, if_pos e2, z, nx]
      · rw [if_neg e2, if_neg e2]
  · rw [if_neg (fun q => z (hcc.mp q))]
    have e21 : jup (jup S 3 f (S 3 x)) 3 x 0 2 1 = side := by
      rw [jup_n _ _ _ (by decide), jup_n _ _ _ (by decide), ← hS']; exact st4_1 _ _ _ _ _
    rw [e21, po_ok _ (by omega) (by omega)]
    simp only [obs]
    rw [jgd_pos (by omega), Int.toNat_natCast]
    refine tail _ (fun a ha => by rw [jup_n _ _ _ ha, jup_n _ _ _ ha, jup_n _ _ _ ha]) (fun y hy => ?_)
    rw [jup_s, jup_s, jup_s, s3, hE y hy]
    by_cases e1 : y = f
    · rw [if_pos e1, if_neg (show ¬ y = x by omega), if_pos e1, hpf (by omega)]
      rcases hS with e | e <;> rw [e] <;> decide
    · rw [if_neg e1, if_neg e1]
      by_cases e2 : y = x
      · rw [if_pos e2, if_pos e2]
      · rw [if_neg e2, if_neg e2, if_neg e1]
