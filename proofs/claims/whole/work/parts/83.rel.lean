/-! class and reference side by side -/
def stepR (h : jH) (k : Nat) : Prop := ∃ f x c v : Nat, f < 64 ∧ x < 64 ∧ c ≤ 4 ∧ lgM h k f x c ∧ vicR (mb h k) (h 26 k) (h 28 k) f x v ∧ v < 64 ∧ EqB (mb h (k + 1)) (nbv (mb h k) (h 26 k) f x c v) ∧ h 26 (k + 1) = 1 - h 26 k ∧ hist h k (code3 f x c) (mb h k v) (h 27 k) (h 28 k) (h 29 k)
def RG (h : jH) (n : Nat) : Prop := (∀ k, k ≤ n → G5 (mb h k) (h 26 k) (h 27 k) (h 28 k) ∧ 0 ≤ h 29 k ∧ h 29 k ≤ 150 + (k : Int)) ∧ curX h (mb h n) (h 26 n) (h 27 n) (h 28 n) (h 29 n) ∧ (∀ k, k < n → stepR h k) ∧ ∀ k, k ≤ n → PW h k (mb h k) (h 26 k) (h 27 k) (h 30 k)
def RA (h : jH) (n : Nat) : Prop := n ≤ 300 ∧ h 1 6 = (n : Int) ∧ h 24 7 = (n : Int) ∧ EqB (h 3) (mb h n) ∧ BR (mb h n) ∧ ((h 0 9 = 0 ∧ h 24 8 = 0 ∧ n = 0) ∨ (h 0 9 = 1 ∧ h 24 8 = 1 ∧ RG h n))
def RT (h : jH) : Prop := ∃ L : Nat, L ≤ 100 ∧ h 18 1 = (L : Int) ∧ h 24 10 = (L : Int) ∧ ∀ i, i < L → h 31 i = h 19 i ∧ 32 ≤ h 19 i ∧ h 19 i ≤ 126
def RP (h : jH) : Prop := ∃ M : Nat, M ≤ 100 ∧ h 22 1 = (M : Int) ∧ h 24 14 = (M : Int) ∧ ∀ i, i < M → h 32 i = h 23 i
def RR (h : jH) : Prop := (∃ n, RA h n) ∧ RT h ∧ RP h
/-- what the game's part of the relation looks at -/
def AgA (h h' : jH) (n : Nat) : Prop := (h' 0 9 = h 0 9 ∧ h' 1 6 = h 1 6 ∧ h' 24 7 = h 24 7 ∧ h' 24 8 = h 24 8) ∧ EqB (h' 3) (h 3) ∧ (h' 2 1 = h 2 1 ∧ h' 2 2 = h 2 2 ∧ h' 2 3 = h 2 3 ∧ h' 2 4 = h 2 4) ∧ (∀ k, k < n → h' 4 k = h 4 k ∧ h' 5 k = h 5 k ∧ h' 6 k = h 6 k ∧ h' 7 k = h 7 k ∧ h' 8 k = h 8 k) ∧ h' 10 = h 10 ∧ ∀ k, k ≤ n → EqB (mb h' k) (mb h k) ∧ h' 26 k = h 26 k ∧ h' 27 k = h 27 k ∧ h' 28 k = h 28 k ∧ h' 29 k = h 29 k ∧ h' 30 k = h 30 k
theorem pkN_c {b b' : Nat → Int} (h : EqB b b') {a : Nat} (ha : a ≤ 48) : ∀ i, i ≤ 16 → pkN b a i = pkN b' a i := by
  intro i
  induction i with
  | zero => intro _; rfl
  | succ i ih => intro hi; unfold pkN; rw [ih (by omega), h (a + i) (by omega)]
theorem PW_c {h h' : jH} {k : Nat} {b b' : Nat → Int} {side rights w : Int} (e10 : h' 10 = h 10) (hE : EqB b b') (hp : PW h k b side rights w) : PW h' k b' side rights w := by
  unfold PW at *
  rw [e10]
  refine ⟨fun q hq => ?_, hp.2⟩
  rw [← pkN_c hE (show 16 * q ≤ 48 by omega) 16 (Nat.le_refl _)]
  exact hp.1 q hq
theorem vic_lt {b : Nat → Int} {side rights file : Int} {f x v : Nat} {c : Int} (hP : PosR b side rights file) (hf : f < 64) (hx : x < 64) (hl : lgl b side rights file f x c) (hv : vicR b side file f x v) : v < 64 := by
  rcases hv with ⟨q, e⟩ | ⟨q, e⟩
  · rw [e]; exact (fil_beh hP.2.1.1 hP.1 hf hx hP.2.1.2.2.2.2 hP.2.2.2.2.2 hl.1.1 q).2.2.1
  · omega
theorem step_c {h h' : jH} {k : Nat} (hG : G5 (mb h k) (h 26 k) (h 27 k) (h 28 k)) (hs : stepR h k) (e0 : EqB (mb h' k) (mb h k)) (e1 : EqB (mb h' (k + 1)) (mb h (k + 1))) (e26 : h' 26 k = h 26 k) (e26' : h' 26 (k + 1) = h 26 (k + 1)) (e27 : h' 27 k = h 27 k) (e28 : h' 28 k = h 28 k) (e29 : h' 29 k = h 29 k) (eh : h' 4 k = h 4 k ∧ h' 5 k = h 5 k ∧ h' 6 k = h 6 k ∧ h' 7 k = h 7 k ∧ h' 8 k = h 8 k) : stepR h' k := by
  obtain ⟨f, x, c, v, h1, h2, h3, h4, h5, h6, h7, h8, h9⟩ := hs
  refine ⟨f, x, c, v, h1, h2, h3, ?_, ?_, h6, ?_, ?_, ?_⟩
  · unfold lgM; rw [e26, e27, e28]; exact lgl_c1 (EqB_sym e0) hG.1 h1 h2 h4
  · rw [e26, e28]; exact vicR_c (EqB_sym e0) h1 h2 h5
  · rw [e26]; exact EqB_tr e1 (EqB_tr h7 (nbv_c (EqB_sym e0) h1))
  · rw [e26, e26']; exact h8
  · unfold hist at *
    rw [eh.1, eh.2.1, eh.2.2.1, eh.2.2.2.1, eh.2.2.2.2, e0 v h6, e27, e28, e29]
    exact h9
theorem RG_c {h h' : jH} {n : Nat} (hR : RG h n) (hA : AgA h h' n) : RG h' n := by
  obtain ⟨r1, ⟨c1, c2, c3, c4, c5⟩, r3, r4⟩ := hR
  obtain ⟨-, a3, ⟨a21, a22, a23, a24⟩, ah, a10, as⟩ := hA
  refine ⟨fun k hk => ?_, ⟨?_, ?_, ?_, ?_, ?_⟩, fun k hk => ?_, fun k hk => ?_⟩
  · obtain ⟨s1, s2, s3, s4, s5, s6⟩ := as k hk
    rw [s2, s3, s4, s5]
    exact ⟨G5_c (EqB_sym s1) (r1 k hk).1, (r1 k hk).2⟩
  · exact EqB_tr a3 (EqB_tr c1 (EqB_sym (as n (Nat.le_refl _)).1))
  · rw [a21, (as n (Nat.le_refl _)).2.1]; exact c2
  · rw [a22, (as n (Nat.le_refl _)).2.2.1]; exact c3
  · rw [a23, (as n (Nat.le_refl _)).2.2.2.1]; exact c4
  · rw [a24, (as n (Nat.le_refl _)).2.2.2.2.1]; exact c5
  · obtain ⟨s1, s2, s3, s4, s5, s6⟩ := as k (by omega)
    obtain ⟨u1, u2, u3, u4, u5, u6⟩ := as (k + 1) (by omega)
    exact step_c (r1 k (by omega)).1 (r3 k hk) s1 u1 s2 u2 s3 s4 s5 (ah k hk)
  · obtain ⟨s1, s2, s3, s4, s5, s6⟩ := as k hk
    rw [s2, s3, s6]
    exact PW_c a10 (EqB_sym s1) (r4 k hk)
theorem RA_c {h h' : jH} {n : Nat} (hR : RA h n) (hA : AgA h h' n) : RA h' n := by
  obtain ⟨r1, r2, r3, r4, r5, r6⟩ := hR
  have s1 := (hA.2.2.2.2.2 n (Nat.le_refl _)).1
  refine ⟨r1, by rw [hA.1.2.1]; exact r2, by rw [hA.1.2.2.1]; exact r3, EqB_tr hA.2.1 (EqB_tr r4 (EqB_sym s1)), BR_c (EqB_sym s1) r5, ?_⟩
  rw [hA.1.1, hA.1.2.2.2]
  rcases r6 with q | ⟨q1, q2, q3⟩
  · exact Or.inl q
  · exact Or.inr ⟨q1, q2, RG_c q3 hA⟩
theorem AgA_s {h h' : jH} (e : ∀ a, (a ≤ 8 ∨ a = 10 ∨ (25 ≤ a ∧ a ≤ 30)) → h' a = h a) (e7 : h' 24 7 = h 24 7) (e8 : h' 24 8 = h 24 8) (n : Nat) : AgA h h' n := by
  refine ⟨⟨by rw [e 0 (by omega)], by rw [e 1 (by omega)], e7, e8⟩, by rw [e 3 (by omega)]; exact EqB_rf _, by rw [e 2 (by omega)]; exact ⟨rfl, rfl, rfl, rfl⟩, fun k _ => ?_, e 10 (by omega), fun k _ => ?_⟩
  · rw [e 4 (by omega), e 5 (by omega), e 6 (by omega), e 7 (by omega), e 8 (by omega)]; exact ⟨rfl, rfl, rfl, rfl, rfl⟩
  · rw [mb_e (e 25 (by omega)) k, e 26 (by omega), e 27 (by omega), e 28 (by omega), e 29 (by omega), e 30 (by omega)]
    exact ⟨EqB_rf _, rfl, rfl, rfl, rfl, rfl⟩
theorem AgA_t {a b c : jH} {n : Nat} (h : AgA a b n) (g : AgA b c n) : AgA a c n := by
  obtain ⟨⟨a1, a2, a3, a4⟩, b, ⟨c1, c2, c3, c4⟩, d, e, f⟩ := h
  obtain ⟨⟨a1', a2', a3', a4'⟩, b', ⟨c1', c2', c3', c4'⟩, d', e', f'⟩ := g
  refine ⟨⟨a1'.trans a1, a2'.trans a2, a3'.trans a3, a4'.trans a4⟩, EqB_tr b' b, ⟨c1'.trans c1, c2'.trans c2, c3'.trans c3, c4'.trans c4⟩, fun k hk => ?_, e'.trans e, fun k hk => ?_⟩
  · have x := d k hk
    have y := d' k hk
    exact ⟨y.1.trans x.1, y.2.1.trans x.2.1, y.2.2.1.trans x.2.2.1, y.2.2.2.1.trans x.2.2.2.1, y.2.2.2.2.trans x.2.2.2.2⟩
  · have x := f k hk
    have y := f' k hk
    exact ⟨EqB_tr y.1 x.1, y.2.1.trans x.2.1, y.2.2.1.trans x.2.2.1, y.2.2.2.1.trans x.2.2.2.1, y.2.2.2.2.1.trans x.2.2.2.2.1, y.2.2.2.2.2.trans x.2.2.2.2.2⟩
/-- only the note of a throw -/
theorem RR_0 {h : jH} (hR : RR h) : RR (jup h 24 0 0) := by
  obtain ⟨⟨n, r⟩, ⟨L, t1, t2, t3, t4⟩, ⟨M, p1, p2, p3, p4⟩⟩ := hR
  have e : ∀ a, a ≠ 24 → jup h 24 0 0 a = h a := fun a ha => jup_n _ _ _ ha
  have k : ∀ j, j ≠ 0 → jup h 24 0 0 24 j = h 24 j := fun j hj => jup_sn _ _ _ hj
  refine ⟨⟨n, RA_c r (AgA_s (fun a ha => e a (by omega)) (k 7 (by decide)) (k 8 (by decide)) n)⟩, ⟨L, t1, by rw [e 18 (by decide)]; exact t2, by rw [k 10 (by decide)]; exact t3, ?_⟩, ⟨M, p1, by rw [e 22 (by decide)]; exact p2, by rw [k 14 (by decide)]; exact p3, ?_⟩⟩
  · rw [e 31 (by decide), e 19 (by decide)]; exact t4
  · rw [e 32 (by decide), e 23 (by decide)]; exact p4
theorem RT_c {h h' : jH} (hR : RT h) (e18 : h' 18 = h 18) (e19 : h' 19 = h 19) (e31 : h' 31 = h 31) (e24 : h' 24 10 = h 24 10) : RT h' := by
  unfold RT; rw [e18, e19, e31, e24]; exact hR
theorem RP_c {h h' : jH} (hR : RP h) (e22 : h' 22 = h 22) (e23 : h' 23 = h 23) (e32 : h' 32 = h 32) (e24 : h' 24 14 = h 24 14) : RP h' := by
  unfold RP; rw [e22, e23, e32, e24]; exact hR
/-- the simple facts of a related heap -/
theorem RA_good {h : jH} {n : Nat} (hR : RA h n) : (h 0 9 = 0 ↔ h 24 8 = 0) ∧ (¬ h 0 9 = 0 → h 0 9 = 1 ∧ h 24 8 = 1 ∧ RG h n) ∧ (h 0 9 = 0 → n = 0) := by
  rcases hR.2.2.2.2.2 with ⟨q1, q2, q3⟩ | ⟨q1, q2, q3⟩
  · exact ⟨⟨fun _ => q2, fun _ => q1⟩, fun z => absurd q1 z, fun _ => q3⟩
  · exact ⟨⟨fun z => by omega, fun z => by omega⟩, fun _ => ⟨q1, q2, q3⟩, fun z => by omega⟩
theorem RG_pos {h : jH} {n : Nat} (hR : RG h n) : G5 (h 3) (h 2 1) (h 2 2) (h 2 3) ∧ PosX h ∧ PosM h n ∧ G5 (mb h n) (h 26 n) (h 27 n) (h 28 n) ∧ 0 ≤ h 2 4 ∧ h 2 4 ≤ 150 + (n : Int) := by
  obtain ⟨r1, ⟨c1, c2, c3, c4, c5⟩, r3, r4⟩ := hR
  have g := r1 n (Nat.le_refl _)
  have gx : G5 (h 3) (h 2 1) (h 2 2) (h 2 3) := by rw [c2, c3, c4]; exact G5_c (EqB_sym c1) g.1
  exact ⟨gx, gx.1, g.1.1, g.1, by rw [c5]; exact g.2.1, by rw [c5]; exact g.2.2⟩
theorem RG_lg {h : jH} {n : Nat} (hR : RG h n) (f x c : Nat) (hf : f < 64) (hx : x < 64) : lgX h f x c ↔ lgM h n f x c := by
  obtain ⟨p1, p2, p3, p4, p5⟩ := RG_pos hR
  obtain ⟨r1, ⟨c1, c2, c3, c4, c5⟩, r3, r4⟩ := hR
  unfold lgX lgM
  rw [c2, c3, c4]
  exact lgl_c c1 (PosR_c (EqB_sym c1) p3) hf hx
