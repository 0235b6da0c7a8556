/-! the position behind a move; the class tries a move -/
noncomputable def vc (b : Nat → Int) (side file : Int) (f x : Nat) : Nat := @ite Nat (beh b side file f x) (Classical.propDecidable _) (eps f x) x
theorem vc_of {b : Nat → Int} {side file : Int} {f x v : Nat} (h : vicR b side file f x v) : v = vc b side file f x := by
  unfold vc
  rcases h with ⟨q, e⟩ | ⟨q, e⟩
  · rw [if_pos q]; exact e
  · rw [if_neg q]; exact e
theorem vc_R (b : Nat → Int) (side file : Int) (f x : Nat) : vicR b side file f x (vc b side file f x) := by
  unfold vc
  by_cases q : beh b side file f x
  · left; rw [if_pos q]; exact ⟨q, rfl⟩
  · right; rw [if_neg q]; exact ⟨q, rfl⟩
theorem vicR_c {b b' : Nat → Int} (h : EqB b b') {side file : Int} {f x v : Nat} (hf : f < 64) (hx : x < 64) (q : vicR b side file f x v) : vicR b' side file f x v := by
  rcases q with ⟨q, e⟩ | ⟨q, e⟩
  · exact Or.inl ⟨(beh_c h hf hx).mp q, e⟩
  · exact Or.inr ⟨fun z => q ((beh_c h hf hx).mpr z), e⟩
/-- the board behind a move -/
noncomputable def nxB (b : Nat → Int) (side file : Int) (f x c : Nat) : Nat → Int := nbv b side f x c (vc b side file f x)
theorem nbv_c {b b' : Nat → Int} (h : EqB b b') {side : Int} {f x c v : Nat} (hf : f < 64) : EqB (nbv b side f x c v) (nbv b' side f x c v) := by
  intro y hy
  unfold nbv nbs
  rw [h f hf, h y hy]
theorem nf_c {b b' : Nat → Int} (h : EqB b b') {f x : Nat} (hf : f < 64) : nf b f x = nf b' f x := by
  unfold nf; rw [h f hf]
theorem nct_c {b b' : Nat → Int} (h : EqB b b') {f x : Nat} (hf : f < 64) (hx : x < 64) (n : Int) : nct b f x n = nct b' f x n := by
  unfold nct; rw [h f hf, h x hx]
theorem EqB_tr {a b c : Nat → Int} (h : EqB a b) (g : EqB b c) : EqB a c := fun y hy => (h y hy).trans (g y hy)
theorem EqB_rf (a : Nat → Int) : EqB a a := fun _ _ => rfl
theorem G5_c {b b' : Nat → Int} (h : EqB b b') {side rights file : Int} (hG : G5 b side rights file) : G5 b' side rights file := by
  refine ⟨PosR_c h hG.1, fun k hk => ?_⟩
  have hS := hG.1.2.1.1
  have hk' := uk_c1 (EqB_sym h) hk
  intro q
  exact hG.2 k hk' ((atd_c h hG.1.1 hk.1 hS).mpr q)
theorem nxG {b : Nat → Int} {side rights file : Int} {f x c : Nat} (hG : G5 b side rights file) (hf : f < 64) (hx : x < 64) (hc : c ≤ 4) (hl : lgl b side rights file f x (c : Int)) : G5 (nxB b side file f x c) (1 - side) (nr rights f x) (nf b f x) := pres hG hf hx hc hl (vc_R _ _ _ _ _)
def WK (h g : jH) (n : Nat) : Prop := (∀ a, (a < 1 ∨ 8 < a) → a ≠ 15 → a ≠ 16 → g a = h a) ∧ g 1 6 = (n : Int) ∧ curX g (h 3) (h 2 1) (h 2 2) (h 2 3) (h 2 4) ∧ hkeep h g n
theorem WK_0 {h : jH} {n : Nat} (en : h 1 6 = (n : Int)) : WK h h n := ⟨fun _ _ _ _ => rfl, en, ⟨EqB_rf _, rfl, rfl, rfl, rfl⟩, fun _ _ => ⟨rfl, rfl, rfl, rfl, rfl⟩⟩
theorem WK_14 {h g g' : jH} {n : Nat} (hW : WK h g n) (e : ∀ a, a ≠ 15 → a ≠ 16 → g' a = g a) : WK h g' n := by
  obtain ⟨w1, w2, w3, w4⟩ := hW
  refine ⟨fun a ha h1 h2 => by rw [e a h1 h2]; exact w1 a ha h1 h2, by rw [e 1 (by decide) (by decide)]; exact w2, ?_, ?_⟩
  · unfold curX; rw [e 2 (by decide) (by decide), e 3 (by decide) (by decide)]; exact w3
  · intro k hk
    rw [e 4 (by decide) (by decide), e 5 (by decide) (by decide), e 6 (by decide) (by decide), e 7 (by decide) (by decide), e 8 (by decide) (by decide)]
    exact w4 k hk
theorem tryX (h g : jH) {n f x c : Nat} (hf : f < 64) (hx : x < 64) (hc : c ≤ 4) (hG : G5 (h 3) (h 2 1) (h 2 2) (h 2 3)) (hl : lgX h f x c) (hn : n ≤ 300) (hct : 0 ≤ h 2 4 ∧ h 2 4 < 100000) (hW : WK h g n) :
    ∃ g1, f_Gm_play g (code3 f x c) = some g1 ∧ (EqB (g1 3) (nxB (h 3) (h 2 1) (h 2 3) f x c) ∧ g1 2 1 = 1 - h 2 1 ∧ g1 2 2 = nr (h 2 2) f x ∧ g1 2 3 = nf (h 3) f x) ∧ (∀ g2, (∀ a, a ≠ 15 → a ≠ 16 → g2 a = g1 a) → ∃ g3, f_Gm_takeBack g2 = some g3 ∧ WK h g3 n) := by
  obtain ⟨w1, w2, ⟨c1, c2, c3, c4, c5⟩, w4⟩ := hW
  have hPg : PosX g := by unfold PosX; rw [c2, c3, c4]; exact PosR_c (EqB_sym c1) hG.1
  have hlg : lgX g f x c := by unfold lgX; rw [c2, c3, c4]; exact lgl_c1 (EqB_sym c1) hG.1 hf hx hl
  obtain ⟨g1, v, p1, p2, p3, p4, p5, p6, p7, p8⟩ := play_ok g hf hx hc hPg hlg (show n < 301 by omega) w2 (by rw [c5]; exact hct)
  rw [c2, c4] at p3
  have p3' := vicR_c c1 hf hx p3
  have ev := vc_of p3'
  obtain ⟨q1, q2, q3, q4, q5⟩ := p6
  rw [c2] at q1 q2
  rw [c3] at q3
  have e1 : EqB (g1 3) (nxB (h 3) (h 2 1) (h 2 3) f x c) := by
    unfold nxB; rw [← ev]; exact EqB_tr q1 (nbv_c c1 hf)
  rw [nf_c c1 hf] at q4
  rw [c1 v p4, c3, c4, c5] at p7
  refine ⟨g1, p1, ⟨e1, q2, q3, q4⟩, fun g2 e => ?_⟩
  have hE : EqB (g2 3) (nbv (h 3) (h 2 1) f x c v) := by rw [e 3 (by decide) (by decide)]; exact EqB_tr q1 (nbv_c c1 hf)
  obtain ⟨g3, t1, t2, t3, t4⟩ := tb_ok g2 (n := n) (count := h 2 4) hf hx hc hG.1 hl (by omega) (by rw [e 1 (by decide) (by decide)]; exact p5) p3' hE (by rw [e 2 (by decide) (by decide)]; exact q2) (by
    unfold hist
    rw [e 4 (by decide) (by decide), e 5 (by decide) (by decide), e 6 (by decide) (by decide), e 7 (by decide) (by decide), e 8 (by decide) (by decide)]
    exact p7)
  refine ⟨g3, t1, fun a ha h1 h2 => ?_, t3, t4, fun k hk => ?_⟩
  · rw [t2 a (by omega) (by omega) (by omega), e a h1 h2, p2 a ha]; exact w1 a ha h1 h2
  · rw [t2 4 (by decide) (by decide) (by decide), t2 5 (by decide) (by decide) (by decide), t2 6 (by decide) (by decide) (by decide), t2 7 (by decide) (by decide) (by decide), t2 8 (by decide) (by decide) (by decide)]
    rw [e 4 (by decide) (by decide), e 5 (by decide) (by decide), e 6 (by decide) (by decide), e 7 (by decide) (by decide), e 8 (by decide) (by decide)]
    have a1 := p8 k hk
    have a2 := w4 k hk
    exact ⟨a1.1.trans a2.1, a1.2.1.trans a2.2.1, a1.2.2.1.trans a2.2.2.1, a1.2.2.2.1.trans a2.2.2.2.1, a1.2.2.2.2.trans a2.2.2.2.2⟩
/-- the moves behind a move; whether it gives check -/
def nxL (b : Nat → Int) (side rights file : Int) (f x c f' x' c' : Nat) : Prop := lgl (nxB b side file f x c) (1 - side) (nr rights f x) (nf b f x) f' x' (c' : Int)
noncomputable def bn (b : Nat → Int) (side rights file : Int) (f x c : Nat) : Nat := nm (nxL b side rights file f x c)
def nxC (b : Nat → Int) (side file : Int) (f x c : Nat) : Prop := ∃ k, uk (nxB b side file f x c) (1 - side) k ∧ atd (nxB b side file f x c) k side
theorem uk_1 {b : Nat → Int} {side : Int} {k k' : Nat} (h : uk b side k) (h' : uk b side k') : k = k' := (h'.2.2 k h.1 h.2.1)
/-- sums over the legal moves -/
noncomputable def TS (L : Nat → Nat → Nat → Prop) (F : Nat → Nat) (n : Nat) : Nat := sm (fun c => ind (lgc L c) * F c) n
theorem TS_eq {L : Nat → Nat → Nat → Prop} {F : Nat → Nat} {m : Nat} : ∀ d, cc L (m + d) = cc L m → TS L F (m + d) = TS L F m := by
  intro d
  induction d with
  | zero => intro _; rfl
  | succ d ih =>
    intro e
    have h1 : cc L m ≤ cc L (m + d) := sm_mono _ (by omega)
    have h2 : cc L (m + (d + 1)) = cc L (m + d) + ind (lgc L (m + d)) := rfl
    have h3 : TS L F (m + (d + 1)) = TS L F (m + d) + ind (lgc L (m + d)) * F (m + d) := rfl
    have h4 : ind (lgc L (m + d)) = 0 := by omega
    rw [h3, h4, Nat.zero_mul, Nat.add_zero]
    exact ih (by omega)
theorem TS_e {L : Nat → Nat → Nat → Prop} {F : Nat → Nat} {m m' : Nat} (e : cc L m = cc L m') : TS L F m = TS L F m' := by
  by_cases c : m ≤ m'
  · obtain ⟨d, rfl⟩ : ∃ d, m' = m + d := ⟨m' - m, by omega⟩
    exact (TS_eq d e.symm).symm
  · obtain ⟨d, rfl⟩ : ∃ d, m = m' + d := ⟨m - m', by omega⟩
    exact TS_eq d e
theorem TS_le (L : Nat → Nat → Nat → Prop) (F : Nat → Nat) (hF : ∀ c, F c ≤ 20480) (n : Nat) : TS L F n ≤ 20480 * n := by
  refine sm_bd _ 20480 (fun i => ?_) n
  have h1 := ind_le (lgc L i)
  have h2 := hF i
  by_cases c : ind (lgc L i) = 0
  · rw [c]; omega
  · rw [show ind (lgc L i) = 1 by omega]; omega
theorem cc_le (L : Nat → Nat → Nat → Prop) (n : Nat) : cc L n ≤ n := by
  have := sm_bd (fun c => ind (lgc L c)) 1 (fun c => ind_le _) n
  unfold cc; omega
/-- move number i, and the sum that goes with it -/
theorem TS_st {L : Nat → Nat → Nat → Prop} {F : Nat → Nat} (hL : becL L) {i m : Nat} {v : Int} (hi : i < nm L) (hm : m ≤ 20480 ∧ cc L m = i) (hv : cdS L i v) : ∃ c, c < 20480 ∧ lgc L c ∧ v = (c : Int) ∧ c + 1 ≤ 20480 ∧ cc L (c + 1) = i + 1 ∧ TS L F (c + 1) = TS L F m + F c := by
  rcases hv with ⟨c, c1, c2, c3, c4⟩ | ⟨c1, c2⟩
  · refine ⟨c, c1, c2, c4, by omega, ?_, ?_⟩
    · have : cc L (c + 1) = cc L c + ind (lgc L c) := rfl
      rw [this, ind_1 c2]; omega
    · have : TS L F (c + 1) = TS L F c + ind (lgc L c) * F c := rfl
      rw [this, ind_1 c2, Nat.one_mul, TS_e (m := c) (m' := m) (by omega)]
  · rw [cc_nm hL] at c1; omega
theorem c3_of {c : Nat} (h : c < 20480) : (c : Int) = code3 (c % 64) (c / 64 % 64) (c / 4096) := by
  unfold code3; omega
