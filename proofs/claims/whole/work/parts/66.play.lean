/-! the class makes and takes back a move -/
def FrX (h h' : jH) : Prop := ∀ a, (a < 1 ∨ 8 < a) → h' a = h a
def hist (h : jH) (k : Nat) (code tk rt fl ct : Int) : Prop := h 4 k = code ∧ h 5 k = tk ∧ h 6 k = rt ∧ h 7 k = fl ∧ h 8 k = ct
def hkeep (h h' : jH) (n : Nat) : Prop := ∀ k, k ≠ n → h' 4 k = h 4 k ∧ h' 5 k = h 5 k ∧ h' 6 k = h 6 k ∧ h' 7 k = h 7 k ∧ h' 8 k = h 8 k
def curX (h : jH) (b : Nat → Int) (side rights file count : Int) : Prop := EqB (h 3) b ∧ h 2 1 = side ∧ h 2 2 = rights ∧ h 2 3 = file ∧ h 2 4 = count
def code3 (f x c : Nat) : Int := ((4096 * c + 64 * x + f : Nat) : Int)
theorem code_dec {f x c : Nat} (hf : f < 64) (hx : x < 64) (hc : c ≤ 4) : jand (code3 f x c) 63 = (f : Int) ∧ jand (jshr (code3 f x c) 6) 63 = (x : Int) ∧ jshr (code3 f x c) 12 = (c : Int) := by
  unfold code3
  refine ⟨?_, ?_, ?_⟩
  · rw [jand63 (by omega) (by omega)]; omega
  · rw [jshr6 (by omega) (by omega), jand63 (by omega) (by omega)]; omega
  · rw [jshr12 (by omega) (by omega)]; omega
theorem nbs_0 (b : Nat → Int) (side : Int) (f x v y : Nat) : nbs b side f x 0 v y = mvb b f x v y := by
  unfold nbs mvb
  rw [if_neg (Nat.lt_irrefl 0)]
theorem play_ok (h : jH) {n f x c : Nat} (hf : f < 64) (hx : x < 64) (hc : c ≤ 4) (hP : PosX h) (hl : lgX h f x c) (hn : n < 301) (en : h 1 6 = (n : Int)) (hct : 0 ≤ h 2 4 ∧ h 2 4 < 100000) :
    ∃ h' v, f_Gm_play h (code3 f x c) = some h' ∧ FrX h h' ∧ vicR (h 3) (h 2 1) (h 2 3) f x v ∧ v < 64 ∧ h' 1 6 = (n : Int) + 1 ∧ curX h' (nbv (h 3) (h 2 1) f x c v) (1 - h 2 1) (nr (h 2 2) f x) (nf (h 3) f x) (nct (h 3) f x (h 2 4)) ∧ hist h' n (code3 f x c) (h 3 v) (h 2 2) (h 2 3) (h 2 4) ∧ hkeep h h' n := by
  have hP0 := hP
  have pre := lg_pre hP hf hx hl
  obtain ⟨v, v1, v2, v3⟩ := vs_ok h hf hx hP pre.2.2
  obtain ⟨hB, ⟨hS, hr0, hr1, hf0, hf1⟩, hK, hpw, hrg, hfl⟩ := hP
  have hm := hl.1
  have hfx : f ≠ x := fun e => hm.2.1 (e ▸ hm.1)
  have hcm : csh (h 3) f x → (f = 4 ∨ f = 60) ∧ f = kh (h 2 1) ∧ (x = f + 2 ∨ f = x + 2) ∧ h 3 x = 0 ∧ h 3 ((f + x) / 2) = 0 ∧ h 3 f = kp (h 2 1) ∧ h 3 (crk f x) = 4 + 6 * h 2 1 := fun q => cas_mt hP0 hf (csh_cas hf hx hm q)
  obtain ⟨d1, d2, d3⟩ := code_dec hf hx hc
  have hc0 : ¬ code3 f x c < 0 := by unfold code3; omega
  have hcc : code3 f x c < 4096 ↔ c = 0 := by unfold code3; omega
  have hprom : (if h 2 1 = 0 then 1 + (c : Int) else 1 + (c : Int) + 6) = (c : Int) + 1 + 6 * h 2 1 := by
    rcases hS with e | e <;> rw [e]
    · rw [if_pos rfl]; omega
    · rw [if_neg (by decide)]; omega
  suffices hh : ∃ h', f_Gm_play h (code3 f x c) = some h' ∧ FrX h h' ∧ vicR (h 3) (h 2 1) (h 2 3) f x v ∧ v < 64 ∧ h' 1 6 = (n : Int) + 1 ∧ curX h' (nbv (h 3) (h 2 1) f x c v) (1 - h 2 1) (nr (h 2 2) f x) (nf (h 3) f x) (nct (h 3) f x (h 2 4)) ∧ hist h' n (code3 f x c) (h 3 v) (h 2 2) (h 2 3) (h 2 4) ∧ hkeep h h' n from ⟨hh.choose, v, hh.choose_spec⟩
  unfold f_Gm_play
  rw [if_neg hc0, en, if_pos (by omega), d1, d2, v1]
  simp only [obs]
  rw [jgd_pos (by omega), jgd_pos (by omega), Int.toNat_natCast, rm_ok h hn en]
  simp only [obs]
  rw [jgd_pos (by omega), jgd_pos (by omega), jgd_pos (by omega), Int.toNat_natCast, Int.toNat_natCast, kd_ok _ (hB f hf).1 (hB f hf).2]
  simp only [obs]
  generalize hG : rmb h n (code3 f x c) (h 3 v) = G
  have gO : ∀ a, a ≠ 1 ∧ a ≠ 4 ∧ a ≠ 5 ∧ a ≠ 6 ∧ a ≠ 7 ∧ a ≠ 8 → G a = h a := fun a ha => by rw [← hG]; exact rmb_o h n _ _ ha
  have tail : ∀ g : jH, (∀ a, a ≠ 3 → g a = G a) → EqB (g 3) (nbv (h 3) (h 2 1) f x c v) → ∃ h', f_Gm_play_j173 g (f : Int) (x : Int) (h 3 v) (if kd (h 3 f) = 1 then 1 else 0) = some h' ∧ FrX h h' ∧ vicR (h 3) (h 2 1) (h 2 3) f x v ∧ v < 64 ∧ h' 1 6 = (n : Int) + 1 ∧ curX h' (nbv (h 3) (h 2 1) f x c v) (1 - h 2 1) (nr (h 2 2) f x) (nf (h 3) f x) (nct (h 3) f x (h 2 4)) ∧ hist h' n (code3 f x c) (h 3 v) (h 2 2) (h 2 3) (h 2 4) ∧ hkeep h h' n := by
    intro g k1 k2
    have e2 : g 2 = h 2 := by rw [k1 2 (by decide)]; exact gO 2 (by decide)
    have run := p173_ok g (f := f) (x := x) (tk := h 3 v) (pw := if kd (h 3 f) = 1 then 1 else 0) hf hx (by rw [e2]; exact hS) (by rw [e2]; exact hr0) (by rw [e2]; exact hr1) (by split <;> omega) (by rw [e2]; exact hct)
    have so : ∀ a b c d a', a' ≠ 2 → st4 g a b c d a' = G a' ∨ a' = 3 := by
      intro a b c d a' ha
      by_cases z : a' = 3
      · exact Or.inr z
      · left; unfold st4; rw [jup_n _ _ _ ha, jup_n _ _ _ ha, jup_n _ _ _ ha, jup_n _ _ _ ha]; exact k1 a' z
    have so' : ∀ a b c d a', a' ≠ 2 → a' ≠ 3 → st4 g a b c d a' = G a' := fun a b c d a' q1 q2 => by
      rcases so a b c d a' q1 with z | z
      · exact z
      · exact absurd z q2
    refine ⟨_, run, fun a ha => ?_, v2, v3, ?_, ⟨?_, ?_, ?_, ?_, ?_⟩, ⟨?_, ?_, ?_, ?_, ?_⟩, fun k hk => ⟨?_, ?_, ?_, ?_, ?_⟩⟩
    · rw [so' _ _ _ _ a (by omega) (by omega)]; exact gO a (by omega)
    · rw [so' _ _ _ _ 1 (by decide) (by decide), ← hG]; unfold rmb; rw [jup_ss]
    · unfold st4; rw [jup_n _ _ _ (by decide), jup_n _ _ _ (by decide), jup_n _ _ _ (by decide), jup_n _ _ _ (by decide)]; exact k2
    · unfold st4; rw [jup_sn _ _ _ (by decide), jup_sn _ _ _ (by decide), jup_sn _ _ _ (by decide), jup_ss, e2]
    · unfold st4; rw [jup_sn _ _ _ (by decide), jup_sn _ _ _ (by decide), jup_ss, e2]
    · unfold st4; rw [jup_sn _ _ _ (by decide), jup_ss]
      unfold nf
      by_cases d : kd (h 3 f) = 1
      · simp [d]
      · simp [d]
    · unfold st4; rw [jup_ss, e2]
      unfold nct
      by_cases d : kd (h 3 f) = 1
      · simp [d]
      · have hvx : v = x := by
          rcases v2 with q | q
          · exact absurd q.1.1 d
          · exact q.2
        simp [d, hvx]
    · rw [so' _ _ _ _ 4 (by decide) (by decide), ← hG]; unfold rmb
      rw [jup_n _ _ _ (by decide), jup_n _ _ _ (by decide), jup_n _ _ _ (by decide), jup_n _ _ _ (by decide), jup_n _ _ _ (by decide), jup_ss]
    · rw [so' _ _ _ _ 5 (by decide) (by decide), ← hG]; unfold rmb
      rw [jup_n _ _ _ (by decide), jup_n _ _ _ (by decide), jup_n _ _ _ (by decide), jup_n _ _ _ (by decide), jup_ss]
    · rw [so' _ _ _ _ 6 (by decide) (by decide), ← hG]; unfold rmb
      rw [jup_n _ _ _ (by decide), jup_n _ _ _ (by decide), jup_n _ _ _ (by decide), jup_ss]
    · rw [so' _ _ _ _ 7 (by decide) (by decide), ← hG]; unfold rmb
      rw [jup_n _ _ _ (by decide), jup_n _ _ _ (by decide), jup_ss]
    · rw [so' _ _ _ _ 8 (by decide) (by decide), ← hG]; unfold rmb
      rw [jup_n _ _ _ (by decide), jup_ss]
    · rw [so' _ _ _ _ 4 (by decide) (by decide), ← hG]; unfold rmb
      rw [jup_n _ _ _ (by decide), jup_n _ _ _ (by decide), jup_n _ _ _ (by decide), jup_n _ _ _ (by decide), jup_n _ _ _ (by decide), jup_sn _ _ _ hk]
    · rw [so' _ _ _ _ 5 (by decide) (by decide), ← hG]; unfold rmb
      rw [jup_n _ _ _ (by decide), jup_n _ _ _ (by decide), jup_n _ _ _ (by decide), jup_n _ _ _ (by decide), jup_sn _ _ _ hk, jup_n _ _ _ (by decide)]
    · rw [so' _ _ _ _ 6 (by decide) (by decide), ← hG]; unfold rmb
      rw [jup_n _ _ _ (by decide), jup_n _ _ _ (by decide), jup_n _ _ _ (by decide), jup_sn _ _ _ hk, jup_n _ _ _ (by decide), jup_n _ _ _ (by decide)]
    · rw [so' _ _ _ _ 7 (by decide) (by decide), ← hG]; unfold rmb
      rw [jup_n _ _ _ (by decide), jup_n _ _ _ (by decide), jup_sn _ _ _ hk, jup_n _ _ _ (by decide), jup_n _ _ _ (by decide), jup_n _ _ _ (by decide)]
    · rw [so' _ _ _ _ 8 (by decide) (by decide), ← hG]; unfold rmb
      rw [jup_n _ _ _ (by decide), jup_sn _ _ _ hk, jup_n _ _ _ (by decide), jup_n _ _ _ (by decide), jup_n _ _ _ (by decide), jup_n _ _ _ (by decide)]
  have mid : ∀ g : jH, (∀ a, a ≠ 3 → g a = G a) → EqB (g 3) (nbs (h 3) (h 2 1) f x c v) → ∃ h', f_Gm_play_j149 g (f : Int) (x : Int) (h 3 f) (h 3 v) (if kd (h 3 f) = 1 then 1 else 0) = some h' ∧ FrX h h' ∧ vicR (h 3) (h 2 1) (h 2 3) f x v ∧ v < 64 ∧ h' 1 6 = (n : Int) + 1 ∧ curX h' (nbv (h 3) (h 2 1) f x c v) (1 - h 2 1) (nr (h 2 2) f x) (nf (h 3) f x) (nct (h 3) f x (h 2 4)) ∧ hist h' n (code3 f x c) (h 3 v) (h 2 2) (h 2 3) (h 2 4) ∧ hkeep h h' n := by
    intro g k1 k2
    unfold f_Gm_play_j149
    rw [ic_ok g (hB f hf).1 (hB f hf).2 hf hx]
    by_cases d : kd (h 3 f) = 6 ∧ (x = f + 2 ∨ f = x + 2)
    · rw [if_pos d, obs, if_neg (show ¬ (1 : Int) = 0 by decide)]
      obtain ⟨q1, q2, q3, q4, q5, q6, q7⟩ := hcm d
      have hcr : crk f x < 64 := by unfold crk; split <;> omega
      have hcn : crk f x ≠ x ∧ crk f x ≠ f ∧ crk f x ≠ (f + x) / 2 := by unfold crk; split <;> omega
      have hm64 : (f + x) / 2 < 64 := by omega
      have hvx : v = x := by
        rcases v2 with q | q
        · have := q.1.1; omega
        · exact q.2
      rw [crf_ok g q1]
      simp only [obs]
      rw [jadd_eq (by omega) (by omega), jdiv_eq (by omega) (by omega) (by omega) (by omega), show ((f : Int) + (x : Int)) / 2 = (((f + x) / 2 : Nat) : Int) by omega, sh_ok g hcr hm64]
      simp only [obs]
      refine tail _ (fun a ha => by rw [jup_n _ _ _ ha, jup_n _ _ _ ha]; exact k1 a ha) (fun y hy => ?_)
      have er : g 3 (crk f x) = 4 + 6 * h 2 1 := by
        rw [k2 _ hcr]
        unfold nbs
        rw [if_neg hcn.1, if_neg hcn.2.1, if_neg (by omega)]; exact q7
      rw [jup_s, jup_s, er, k2 y hy]
      unfold nbv
      rw [if_pos d]
      by_cases e1 : y = crk f x
      · rw [if_pos e1, if_neg (by omega), if_pos e1]
      · rw [if_neg e1, if_neg e1]
    · rw [if_neg d, obs, if_pos (show (0 : Int) = 0 from rfl)]
      refine tail g k1 (fun y hy => ?_)
      rw [k2 y hy]
      unfold nbv
      rw [if_neg d]
  have g3 : ∀ y, jup (jup (jup G 3 v 0) 3 f 0) 3 x (h 3 f) 3 y = mvb (h 3) f x v y := by
    intro y
    rw [jup_s, jup_s, jup_s, gO 3 (by decide)]
    rfl
  unfold f_Gm_play_j115
  by_cases z : c = 0
  · subst z
    rw [if_pos (hcc.mpr rfl)]
    exact mid _ (fun a ha => by rw [jup_n _ _ _ ha, jup_n _ _ _ ha, jup_n _ _ _ ha]) (fun y _ => by rw [g3 y, nbs_0])
  · rw [if_neg (fun q => z (hcc.mp q)), d3, jadd_eq (by omega) (by omega)]
    have e21 : jup (jup (jup G 3 v 0) 3 f 0) 3 x (h 3 f) 2 1 = h 2 1 := by
      rw [jup_n _ _ _ (by decide), jup_n _ _ _ (by decide), jup_n _ _ _ (by decide), gO 2 (by decide)]
    rw [e21, po_ok _ (by omega) (by omega), hprom]
    simp only [obs]
    rw [jgd_pos (by omega), Int.toNat_natCast]
    refine mid _ (fun a ha => by rw [jup_n _ _ _ ha, jup_n _ _ _ ha, jup_n _ _ _ ha, jup_n _ _ _ ha]) (fun y _ => ?_)
    rw [jup_s, g3 y]
    unfold nbs mvb
    rw [if_pos (show 0 < c by omega)]
    by_cases e1 : y = x
    · rw [if_pos e1, if_pos e1]
    · rw [if_neg e1, if_neg e1, if_neg e1]
