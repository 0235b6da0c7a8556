/-! the class's table holds the reference's legal moves -/
def btwB (s t : Nat) : Bool := (btw s t).all (fun y => decide (y < 64) && decide (y ≠ s) && decide (y ≠ t))
theorem btw_tab : ∀ s : Nat, s < 64 → ∀ t : Nat, t < 64 → ((dfl s t = 0 ∨ drk s t = 0 ∨ dfl s t = drk s t) → btwB s t = true) := by decide +kernel
theorem btw_in {s t y : Nat} (hs : s < 64) (ht : t < 64) (ha : dfl s t = 0 ∨ drk s t = 0 ∨ dfl s t = drk s t) (hy : y ∈ btw s t) : y < 64 ∧ y ≠ s ∧ y ≠ t := by
  have h := btw_tab s hs t ht ha
  unfold btwB at h
  rw [List.all_eq_true] at h
  have := h y hy
  simp at this
  exact ⟨this.1.1, this.1.2, this.2⟩
theorem attR_sub {b b' : Nat → Int} {s t : Nat} (hs : s < 64) (ht : t < 64) (e : b' s = b s) (hc : ∀ y, y < 64 → y ≠ s → y ≠ t → b y = 0 → b' y = 0) (h : attR b s t) : attR b' s t := by
  have cl : (dfl s t = 0 ∨ drk s t = 0 ∨ dfl s t = drk s t) → clr b s t → clr b' s t := by
    intro ha q y hy
    obtain ⟨y1, y2, y3⟩ := btw_in hs ht ha hy
    exact hc y y1 y2 y3 (q y hy)
  unfold attR at *
  rw [e]
  rcases h with q | q | q | q | q | q
  · exact Or.inl q
  · exact Or.inr (Or.inl q)
  · exact Or.inr (Or.inr (Or.inl ⟨q.1, q.2.1, q.2.2.1, cl (by omega) q.2.2.2⟩))
  · exact Or.inr (Or.inr (Or.inr (Or.inl ⟨q.1, q.2.1, cl (by omega) q.2.2⟩)))
  · exact Or.inr (Or.inr (Or.inr (Or.inr (Or.inl ⟨q.1, q.2.1, cl (by omega) q.2.2⟩))))
  · exact Or.inr (Or.inr (Or.inr (Or.inr (Or.inr q))))
theorem cas_btw : ∀ f : Nat, (f = 4 ∨ f = 60) → (∀ y : Nat, y ∈ btw f (f + 3) ↔ (f < y ∧ y < f + 3)) ∧ (∀ y : Nat, y ∈ btw f (f - 4) ↔ (f < y + 4 ∧ y < f)) := by
  rintro f (e | e) <;> subst e
  · refine ⟨fun y => ?_, fun y => ?_⟩
    · rw [show btw 4 (4 + 3) = [5, 6] from by decide]; simp; omega
    · rw [show btw 4 (4 - 4) = [3, 2, 1] from by decide]; simp; omega
  · refine ⟨fun y => ?_, fun y => ?_⟩
    · rw [show btw 60 (60 + 3) = [61, 62] from by decide]; simp; omega
    · rw [show btw 60 (60 - 4) = [59, 58, 57] from by decide]; simp; omega
theorem rgt_king {b : Nat → Int} {side rights : Int} {w : Nat} (hS : side = 0 ∨ side = 1) (hrg : rgt b rights) (hw : w < 2) (hb : rbit rights (2 * side.toNat + w)) : b (kh side) = kp side ∧ b (rh side (w : Int)) = (if side = 0 then 4 else 10) := by
  have hw2 : w = 0 ∨ w = 1 := by omega
  have h := hrg (2 * side.toNat + w) (by omega) hb
  rcases hS with g | g <;> subst g <;> rcases hw2 with q | q <;> subst q <;> exact h
theorem cx_of_cas {b : Nat → Int} {side rights file : Int} {f x : Nat} (hP : PosR b side rights file) (hf : f < 64) (hx : x < 64) (hc : cas b side rights f x) (hs : safe b side file f x) : (x = f + 2 ∧ cx b side rights 0) ∨ (f = x + 2 ∧ cx b side rights 1) := by
  obtain ⟨hB, ⟨hS, hr0, hr1, hf0, hf1⟩, hK, hpw, hrg, hfl⟩ := hP
  obtain ⟨c1, c2, c3, c4, c5, c6⟩ := hc
  have hk : f = 4 ∨ f = 60 := by rw [c1]; unfold kh; split <;> omega
  obtain ⟨bt1, bt2⟩ := cas_btw f hk
  have hcb : ∃ w, w < 2 ∧ cbit side f x = 2 * side.toNat + w ∧ ((w = 0 ∧ x = f + 2) ∨ (w = 1 ∧ f = x + 2)) := by
    unfold cbit
    rcases c2 with q | q
    · refine ⟨0, by omega, ?_, Or.inl ⟨rfl, q⟩⟩
      rw [if_neg (show ¬ x ≤ f by omega)]
      rcases hS with g | g <;> subst g <;> rfl
    · refine ⟨1, by omega, ?_, Or.inr ⟨rfl, q⟩⟩
      rw [if_pos (show x ≤ f by omega)]
      rcases hS with g | g <;> subst g <;> rfl
  obtain ⟨w, w1, w2, w3⟩ := hcb
  rw [w2] at c3
  have hkg := (rgt_king hS hrg w1 c3).1
  rw [← c1] at hkg
  obtain ⟨k, hu⟩ := kgs_uk hK hS
  have hkf : f = k := hu.2.2 f hf hkg
  have hx0 : b x = 0 := by
    rcases c2 with q | q
    · apply c4; unfold crk; rw [if_neg (by omega)]; exact (bt1 x).mpr (by omega)
    · apply c4; unfold crk; rw [if_pos (by omega)]; exact (bt2 x).mpr (by omega)
  have nb : ¬ beh b side file f x := by
    intro q
    have := q.1
    rw [hkg] at this
    rcases hS with g | g <;> subst g <;> revert this <;> decide
  have sf := hs k x hu (Or.inr ⟨nb, rfl⟩)
  unfold kmv at sf
  rw [if_pos hkf] at sf
  have nx : ¬ atd b x (1 - side) := by
    intro q
    apply sf
    rw [atd_iff hB hx (side_sub hS).2] at q
    rw [atd_iff (BR_mv hB hf) hx (side_sub hS).2]
    obtain ⟨s, s1, s2, s3⟩ := q
    have hsf : s ≠ f := fun e => by rw [e, hkg, sd_kp hS] at s2; omega
    have hsx : s ≠ x := fun e => by rw [e, hx0] at s2; exact sd_0 (side_sub hS).2 s2
    have e : mvb b f x x s = b s := by unfold mvb; rw [if_neg hsx, if_neg hsf, if_neg hsx]
    refine ⟨s, s1, by rw [e]; exact s2, attR_sub s1 hx e (fun y y1 y2 y3 y4 => ?_) s3⟩
    unfold mvb
    rw [if_neg y3]
    by_cases c : y = f
    · rw [if_pos c]
    · rw [if_neg c, if_neg y3]; exact y4
  have at3 : ∀ i, i < 3 → ¬ atd b (csq side w i) (1 - side) := by
    intro i hi
    have hi3 : i = 0 ∨ i = 1 ∨ i = 2 := by omega
    unfold csq
    rw [← c1]
    rcases w3 with ⟨q1, q2⟩ | ⟨q1, q2⟩
    · rw [if_pos q1]
      rcases hi3 with e | e | e <;> subst e
      · exact c5
      · rw [show f + 1 = (f + x) / 2 by omega]; exact c6
      · rw [← q2]; exact nx
    · rw [if_neg (by omega)]
      rcases hi3 with e | e | e <;> subst e
      · exact c5
      · rw [show f - 1 = (f + x) / 2 by omega]; exact c6
      · rw [show f - 2 = x by omega]; exact nx
  rcases w3 with ⟨q1, q2⟩ | ⟨q1, q2⟩
  · subst q1
    refine Or.inl ⟨q2, c3, fun y hy => ?_, at3⟩
    unfold cin at hy
    rw [if_pos rfl, ← c1] at hy
    apply c4; unfold crk; rw [if_neg (by omega)]; exact (bt1 y).mpr hy
  · subst q1
    refine Or.inr ⟨q2, c3, fun y hy => ?_, at3⟩
    unfold cin at hy
    rw [if_neg (by decide), ← c1] at hy
    apply c4; unfold crk; rw [if_pos (by omega)]; exact (bt2 y).mpr hy
theorem cas_of_cx {b : Nat → Int} {side rights file : Int} {f x : Nat} (hP : PosR b side rights file) (hfk : f = kh side) (h : (x = f + 2 ∧ cx b side rights 0) ∨ (f = x + 2 ∧ cx b side rights 1)) : cas b side rights f x := by
  obtain ⟨hB, ⟨hS, hr0, hr1, hf0, hf1⟩, hK, hpw, hrg, hfl⟩ := hP
  have hk : f = 4 ∨ f = 60 := by rw [hfk]; unfold kh; split <;> omega
  obtain ⟨bt1, bt2⟩ := cas_btw f hk
  rcases h with ⟨q, c1, c2, c3⟩ | ⟨q, c1, c2, c3⟩
  · refine ⟨hfk, Or.inl q, ?_, ?_, ?_, ?_⟩
    · unfold cbit; rw [if_neg (show ¬ x ≤ f by omega)]
      rcases hS with g | g <;> subst g <;> exact c1
    · intro y hy
      unfold crk at hy
      rw [if_neg (by omega)] at hy
      apply c2
      unfold cin; rw [if_pos rfl, ← hfk]; exact (bt1 y).mp hy
    · have := c3 0 (by omega); unfold csq at this; rw [if_pos rfl, ← hfk] at this; exact this
    · have := c3 1 (by omega); unfold csq at this; rw [if_pos rfl, ← hfk] at this; rw [show (f + x) / 2 = f + 1 by omega]; exact this
  · refine ⟨hfk, Or.inr q, ?_, ?_, ?_, ?_⟩
    · unfold cbit; rw [if_pos (show x ≤ f by omega)]
      rcases hS with g | g <;> subst g <;> exact c1
    · intro y hy
      unfold crk at hy
      rw [if_pos (by omega)] at hy
      apply c2
      unfold cin; rw [if_neg (by decide), ← hfk]; exact (bt2 y).mp hy
    · have := c3 0 (by omega); unfold csq at this; rw [if_neg (by decide), ← hfk] at this; exact this
    · have := c3 1 (by omega); unfold csq at this; rw [if_neg (by decide), ← hfk] at this; rw [show (f + x) / 2 = f - 1 by omega]; exact this
def lgX (h : jH) (f x c : Nat) : Prop := lgl (h 3) (h 2 1) (h 2 2) (h 2 3) f x (c : Int)
theorem psd_lgl (h0 : jH) {f x c : Nat} (hf : f < 64) (hx : x < 64) (hc2 : c < 2) (hP : PosX h0) : (psd h0 f x c ∧ safe (h0 3) (h0 2 1) (h0 2 3) f x) ↔ lgX h0 f x c := by
  constructor
  · rintro ⟨h1, h2⟩
    have pre := psd_own h0 hf hx hc2 hP h1
    refine ⟨⟨pre.1, pre.2.1, ?_⟩, h2⟩
    rcases h1 with ⟨q1, q2⟩ | ⟨q1, q2, q3⟩
    · have := (pmv_iff h0 hf hx hc2 hP q1).mp q2
      rcases this.2 with z | z
      · exact Or.inl z
      · exact Or.inr ⟨z.1, z.2.1, Or.inl z.2.2⟩
    · have hc := cas_of_cx (file := h0 2 3) hP q1 q3
      have hS := hP.2.1.1
      have hkg : h0 3 f = kp (h0 2 1) := by
        rw [q1]
        rcases q3 with z | z
        · exact (rgt_king hS hP.2.2.2.2.1 (w := 0) (by omega) z.2.1).1
        · exact (rgt_king hS hP.2.2.2.2.1 (w := 1) (by omega) z.2.1).1
      have k6 : kd (h0 3 f) = 6 := by rw [hkg]; rcases hS with g | g <;> rw [g] <;> decide
      exact Or.inr ⟨by omega, by omega, Or.inr ⟨k6, hc⟩⟩
  · rintro ⟨⟨h1, h2, h3⟩, h4⟩
    refine ⟨?_, h4⟩
    rcases h3 with z | ⟨z1, z2, z3 | z3⟩
    · exact Or.inl ⟨h1, (pmv_iff h0 hf hx hc2 hP h1).mpr ⟨h2, Or.inl z⟩⟩
    · exact Or.inl ⟨h1, (pmv_iff h0 hf hx hc2 hP h1).mpr ⟨h2, Or.inr ⟨z1, z2, z3⟩⟩⟩
    · exact Or.inr ⟨z3.2.1, by omega, cx_of_cas hP hf hx z3.2 h4⟩
theorem PosX_of {h g : jH} (e2 : g 2 = h 2) (e3 : g 3 = h 3) (hP : PosX h) : PosX g := by
  unfold PosX at *
  rw [e2, e3]; exact hP
theorem g18_ok (t : Nat) (h0 : jH) (ht : 11 ≤ t) (hP : PosX h0) (k : Int → jH → Option (Int × jH)) (k' : jH → Option (Int × jH)) (hkk : ∀ i g, k i g = k' g) (h : jH) (hT : Tb t h0 h (fun _ _ _ => False)) :
    ∃ g, f_Mt_gather_lp18 t k 1000 0 h = k' g ∧ Tb t h0 g (fun f x c => sd (h0 3 f) = h0 2 1 ∧ pmv h0 f x c) := by
  obtain ⟨g, g1, g2⟩ := lp_all (fun n (i : Nat) (g : jH) => f_Mt_gather_lp18 t k n (i : Int) g) 64 k'
    (fun i g => Tb t h0 g (fun f x c => f < i ∧ sd (h0 3 f) = h0 2 1 ∧ pmv h0 f x c)) (by
      intro n g _
      show f_Mt_gather_lp18 _ _ (n + 1) _ g = _
      rw [f_Mt_gather_lp18, if_pos (by omega), hkk]) (by
      intro n i g hi hg
      show ∃ s', _ ∧ f_Mt_gather_lp18 _ _ (n + 1) _ g = f_Mt_gather_lp18 _ _ n ((i + 1 : Nat) : Int) s'
      have e2 : g 2 = h0 2 := hg.1 2 (by omega) (by omega)
      have e3 : g 3 = h0 3 := hg.1 3 (by omega) (by omega)
      rw [f_Mt_gather_lp18, if_neg (by omega), jgd_pos (by omega), Int.toNat_natCast, sd_ok, e2, e3]
      simp only [obs]
      rw [jadd_eq (a := (i : Int)) (by omega) (by omega), show (i : Int) + 1 = ((i + 1 : Nat) : Int) by omega]
      by_cases c : sd (h0 3 i) = h0 2 1
      · rw [if_pos c]
        obtain ⟨g', k1, k2⟩ := apc_ok t h0 ht hi hP g _ hg
        rw [show f_Mt_addPiece t g (i : Int) = some g' from k1]
        simp only [obs]
        refine ⟨g', Tb_congr (fun f x c' _ _ _ => ?_) k2, rfl⟩
        constructor
        · rintro (⟨q1, q2⟩ | ⟨q1, q2⟩)
          · exact ⟨by omega, q2⟩
          · subst q1; exact ⟨by omega, c, q2⟩
        · rintro ⟨q1, q2, q3⟩
          by_cases e : f = i
          · right; subst e; exact ⟨rfl, q3⟩
          · left; exact ⟨by omega, q2, q3⟩
      · rw [if_neg c]
        refine ⟨g, Tb_congr (fun f x c' _ _ _ => ?_) hg, rfl⟩
        constructor
        · rintro ⟨q1, q2⟩; exact ⟨by omega, q2⟩
        · rintro ⟨q1, q2, q3⟩
          by_cases e : f = i
          · subst e; exact absurd q2 c
          · exact ⟨by omega, q2, q3⟩) h 1000 (Tb_congr (fun f x c _ _ _ => ⟨False.elim, fun q => by omega⟩) hT) (by omega)
  exact ⟨g, g2, Tb_congr (fun f x c hf _ _ => ⟨fun q => q.2, fun q => ⟨hf, q⟩⟩) g1⟩
theorem Tb_set {t : Nat} {h0 g : jH} {Q : Nat → Nat → Nat → Prop} (hT : Tb t h0 g Q) {c x : Nat} (hc : c < 2) (hx : x < 64) {v : Int} {R : Nat → Prop} (hv : ok64 v) (hb : ∀ f, f < 64 → (bt v f = true ↔ R f)) : Tb t h0 (jup g (t + 1 + c) x v) (fun f x' c' => (x' = x ∧ c' = c ∧ R f) ∨ (¬ (x' = x ∧ c' = c) ∧ Q f x' c')) := by
  refine ⟨fun a h1 h2 => ?_, fun c' hc' x' hx' => ?_⟩
  · rw [jup_n _ _ _ (by omega)]; exact hT.1 a h1 h2
  · by_cases e : c' = c
    · subst e
      rw [jup_s]
      by_cases e2 : x' = x
      · subst e2
        rw [if_pos rfl]
        refine ⟨hv, fun f hf => (hb f hf).trans ⟨fun q => Or.inl ⟨rfl, rfl, q⟩, ?_⟩⟩
        rintro (q | q)
        · exact q.2.2
        · exact absurd ⟨rfl, rfl⟩ q.1
      · rw [if_neg e2]
        obtain ⟨g1, g2⟩ := hT.2 c' hc x' hx'
        refine ⟨g1, fun f hf => (g2 f hf).trans ⟨fun q => Or.inr ⟨fun z => e2 z.1, q⟩, ?_⟩⟩
        rintro (q | q)
        · exact absurd q.1 e2
        · exact q.2
    · rw [jup_n _ _ _ (by omega)]
      obtain ⟨g1, g2⟩ := hT.2 c' hc' x' hx'
      refine ⟨g1, fun f hf => (g2 f hf).trans ⟨fun q => Or.inr ⟨fun z => e z.2, q⟩, ?_⟩⟩
      rintro (q | q)
      · exact absurd q.2.1 e
      · exact q.2
theorem g68_ok (t : Nat) (h0 : jH) (ht : 11 ≤ t) (hP : PosX h0) {kg : Nat} (hk : uk (h0 3) (h0 2 1) kg) (k : Int → jH → Option (Int × jH)) (k' : jH → Option (Int × jH)) (hkk : ∀ i g, k i g = k' g) (h : jH) (hT : Tb t h0 h (psd h0)) :
    ∃ g, f_Mt_gather_lp68 t (kg : Int) k 1000 0 h = k' g ∧ Tb t h0 g (lgX h0) := by
  obtain ⟨g, g1, g2⟩ := lp_all (fun n (i : Nat) (g : jH) => f_Mt_gather_lp68 t (kg : Int) k n (i : Int) g) 64 k'
    (fun i g => Tb t h0 g (fun f x c => psd h0 f x c ∧ (x < i → safe (h0 3) (h0 2 1) (h0 2 3) f x))) (by
      intro n g _
      show f_Mt_gather_lp68 _ _ _ (n + 1) _ g = _
      rw [f_Mt_gather_lp68, if_pos (by omega), hkk]) (by
      intro n i g hi hg
      show ∃ s', _ ∧ f_Mt_gather_lp68 _ _ _ (n + 1) _ g = f_Mt_gather_lp68 _ _ _ n ((i + 1 : Nat) : Int) s'
      have e2 : g 2 = h0 2 := hg.1 2 (by omega) (by omega)
      have e3 : g 3 = h0 3 := hg.1 3 (by omega) (by omega)
      obtain ⟨o1, p1⟩ := hg.2 0 (by omega) i hi
      obtain ⟨v, v1, v2, v3⟩ := lo_ok g hi (PosX_of e2 e3 hP) (by rw [e2, e3]; exact hk) (g (t + 1) i) (fun f hf q => by
        rw [e2, e3]; exact psd_own h0 hf hi (c := 0) (by omega) hP ((p1 f hf).mp q).1)
      rw [e2, e3] at v3
      rw [f_Mt_gather_lp68, if_neg (by omega), if_neg (by omega), jgd_pos (by omega), Int.toNat_natCast, v1]
      simp only [obs]
      rw [jgd_pos (by omega), jgd_pos (by omega)]
      have hT1 := Tb_set hg (c := 0) (by omega) hi v2 v3
      have f2 : jup g (t + 1) i v 2 = h0 2 := by rw [jup_n _ _ _ (show 2 ≠ t + 1 by omega)]; exact e2
      have f3 : jup g (t + 1) i v 3 = h0 3 := by rw [jup_n _ _ _ (show 3 ≠ t + 1 by omega)]; exact e3
      obtain ⟨o2, p2⟩ := hT1.2 1 (by omega) i hi
      obtain ⟨w, w1, w2, w3⟩ := lo_ok (jup g (t + 1) i v) hi (PosX_of f2 f3 hP) (by rw [f2, f3]; exact hk) ((jup g (t + 1) i v) (t + 2) i) (fun f hf q => by
        rw [f2, f3]
        have := (p2 f hf).mp q
        rcases this with z | z
        · have := z.2.1; omega
        · exact psd_own h0 hf hi (c := 1) (by omega) hP z.2.1)
      rw [f2, f3] at w3
      rw [w1]
      simp only [obs]
      rw [jgd_pos (by omega)]
      have hT2 := Tb_set hT1 (c := 1) (by omega) hi w2 w3
      rw [jadd_eq (a := (i : Int)) (by omega) (by omega)]
      refine ⟨_, Tb_congr (fun f x c hf hx hc2 => ?_) hT2, rfl⟩
      by_cases ex : x = i
      · subst ex
        have hc3 : c = 0 ∨ c = 1 := by omega
        rcases hc3 with e | e <;> subst e
        · constructor
          · rintro (q | ⟨_, q | q⟩)
            · have := q.2.1; omega
            · obtain ⟨_, _, q1, q2⟩ := q
              exact ⟨((p1 f hf).mp q1).1, fun _ => q2⟩
            · exact absurd ⟨rfl, rfl⟩ q.1
          · rintro ⟨q1, q2⟩
            refine Or.inr ⟨fun z => by have := z.2; omega, Or.inl ⟨rfl, rfl, (p1 f hf).mpr ⟨q1, fun z => by omega⟩, q2 (by omega)⟩⟩
        · constructor
          · rintro (q | q)
            · obtain ⟨_, _, q1, q2⟩ := q
              have := (p2 f hf).mp q1
              rcases this with z | z
              · have := z.2.1; omega
              · exact ⟨z.2.1, fun _ => q2⟩
            · exact absurd ⟨rfl, rfl⟩ q.1
          · rintro ⟨q1, q2⟩
            refine Or.inl ⟨rfl, rfl, (p2 f hf).mpr (Or.inr ⟨fun z => by have := z.2; omega, q1, fun z => by omega⟩), q2 (by omega)⟩
      · constructor
        · rintro (q | ⟨_, q | q⟩)
          · exact absurd q.1 ex
          · exact absurd q.1 ex
          · exact ⟨q.2.1, fun z => q.2.2 (by omega)⟩
        · rintro ⟨q1, q2⟩
          exact Or.inr ⟨fun z => ex z.1, Or.inr ⟨fun z => ex z.1, q1, fun z => q2 (by omega)⟩⟩) h 1000 (Tb_congr (fun f x c _ _ _ => ⟨fun q => ⟨q, fun z => by omega⟩, fun q => q.1⟩) hT) (by omega)
  refine ⟨g, g2, Tb_congr (fun f x c hf hx hc2 => ?_) g1⟩
  rw [← psd_lgl h0 hf hx hc2 hP]
  exact ⟨fun q => ⟨q.1, q.2 hx⟩, fun q => ⟨q.1, fun _ => q.2⟩⟩
theorem gat_ok (t : Nat) (h : jH) (ht : 11 ≤ t) (hP : PosX h) : ∃ g, f_Mt_gather t h = f_Mt_gather_j121 t g ∧ Tb t h g (lgX h) := by
  obtain ⟨h1, a1, a2, a3⟩ := fj_ok (t + 1) h
  obtain ⟨h2, b1, b2, b3⟩ := fj_ok (t + 2) h1
  obtain ⟨kg, hk⟩ := kgs_uk hP.2.2.1 hP.2.1.1
  have hT0 : Tb t h h2 (fun _ _ _ => False) := by
    refine ⟨fun a q1 q2 => by rw [b2 a q2, a2 a q1], fun c hc x hx => ?_⟩
    have hc3 : c = 0 ∨ c = 1 := by omega
    have e : h2 (t + 1 + c) x = 0 := by
      rcases hc3 with e | e <;> subst e
      · show h2 (t + 1) x = 0
        rw [b2 _ (by omega)]; exact a3 x hx
      · exact b3 x hx
    rw [e]
    exact ⟨ok64_0, fun f hf => by rw [bt_0]; simp⟩
  unfold f_Mt_gather
  rw [a1]
  simp only [obs]
  rw [b1]
  simp only [obs]
  obtain ⟨g, c1, c2⟩ := g18_ok t h ht hP _ (fun h8 => (f_Mt_addCastling t h8).bind fun v9 => (f_Bd_kingSquare 2 v9 (v9 2 1)).bind fun v10 => f_Mt_gather_lp68 t v10 (fun l16 h17 => f_Mt_gather_j121 t h17) 1000 0 v9) (fun _ _ => rfl) h2 hT0
  rw [c1]
  obtain ⟨g', d1, d2⟩ := acs_ok t h ht hP.1 hP.2.1.1 hP.2.1.2.1 hP.2.1.2.2.1 g _ c2
  rw [show f_Mt_addCastling t g = some g' from d1]
  simp only [obs]
  have e2 : g' 2 = h 2 := d2.1 2 (by omega) (by omega)
  have e3 : g' 3 = h 3 := d2.1 3 (by omega) (by omega)
  rw [e2, ks_ok g' 2 (show uk (g' (2 + 1)) (h 2 1) kg by show uk (g' 3) _ _; rw [e3]; exact hk)]
  simp only [obs]
  obtain ⟨g'', f1, f2⟩ := g68_ok t h ht hP hk (fun l16 h17 => f_Mt_gather_j121 t h17) (fun h17 => f_Mt_gather_j121 t h17) (fun _ _ => rfl) g' d2
  exact ⟨g'', f1, f2⟩
