/-! the class's table of moves: what is added -/
def Tb (t : Nat) (h0 h : jH) (Q : Nat → Nat → Nat → Prop) : Prop := (∀ a, a ≠ t + 1 → a ≠ t + 2 → h a = h0 a) ∧ ∀ c, c < 2 → ∀ x, x < 64 → ok64 (h (t + 1 + c) x) ∧ ∀ f, f < 64 → (bt (h (t + 1 + c) x) f = true ↔ Q f x c)
theorem Tb_congr {t : Nat} {h0 h : jH} {Q R : Nat → Nat → Nat → Prop} (e : ∀ f x c, f < 64 → x < 64 → c < 2 → (Q f x c ↔ R f x c)) (hT : Tb t h0 h Q) : Tb t h0 h R :=
  ⟨hT.1, fun c hc x hx => ⟨(hT.2 c hc x hx).1, fun f hf => ((hT.2 c hc x hx).2 f hf).trans (e f x c hf hx hc)⟩⟩
theorem Tb_add {t : Nat} {h0 h : jH} {Q : Nat → Nat → Nat → Prop} (hT : Tb t h0 h Q) {c x f : Nat} (hc : c < 2) (hx : x < 64) (hf : f < 64) :
    Tb t h0 (jup h (t + 1 + c) x (jlor (h (t + 1 + c) x) (jlshl 1 (f : Int)))) (fun f' x' c' => Q f' x' c' ∨ (f' = f ∧ x' = x ∧ c' = c)) := by
  refine ⟨fun a h1 h2 => ?_, fun c' hc' x' hx' => ?_⟩
  · rw [jup_n _ _ _ (by omega)]; exact hT.1 a h1 h2
  · by_cases e : c' = c
    · subst e
      rw [jup_s]
      by_cases e2 : x' = x
      · subst e2
        rw [if_pos rfl]
        refine ⟨jlor_ok _ _, fun f' hf' => ?_⟩
        rw [bt_or, Bool.or_eq_true, (hT.2 c' hc x' hx).2 f' hf', bt_shl (by omega) (by omega) f' hf', Int.toNat_natCast]
        simp
      · rw [if_neg e2]
        obtain ⟨g1, g2⟩ := hT.2 c' hc x' hx'
        refine ⟨g1, fun f' hf' => (g2 f' hf').trans ⟨Or.inl, ?_⟩⟩
        rintro (q | q)
        · exact q
        · exact absurd q.2.1 e2
    · rw [jup_n _ _ _ (by omega)]
      obtain ⟨g1, g2⟩ := hT.2 c' hc' x' hx'
      refine ⟨g1, fun f' hf' => (g2 f' hf').trans ⟨Or.inl, ?_⟩⟩
      rintro (q | q)
      · exact q
      · exact absurd q.2.2 e
def Adds (t : Nat) (h0 : jH) (act : jH → Option jH) (N : Nat → Nat → Nat → Prop) : Prop := ∀ h Q, Tb t h0 h Q → ∃ h', act h = some h' ∧ Tb t h0 h' (fun f x c => Q f x c ∨ N f x c)
theorem Adds_iff {t : Nat} {h0 : jH} {act : jH → Option jH} {N M : Nat → Nat → Nat → Prop} (hA : Adds t h0 act N) (e : ∀ f x c, f < 64 → x < 64 → c < 2 → (N f x c ↔ M f x c)) : Adds t h0 act M := by
  intro h Q hT
  obtain ⟨h', h1, h2⟩ := hA h Q hT
  exact ⟨h', h1, Tb_congr (fun f x c hf hx hc => by rw [e f x c hf hx hc]) h2⟩
theorem Adds_none {t : Nat} {h0 : jH} : Adds t h0 (fun h => some h) (fun _ _ _ => False) := fun h Q hT => ⟨h, rfl, Tb_congr (fun f x c _ _ _ => by simp) hT⟩
theorem Adds_seq {t : Nat} {h0 : jH} {act : jH → Option jH} {F : jH → jH → Option jH} {N M : Nat → Nat → Nat → Prop} (hA : Adds t h0 act N) (hB : ∀ h, (∀ a, a ≠ t + 1 → a ≠ t + 2 → h a = h0 a) → Adds t h0 (F h) M) : Adds t h0 (fun h => (act h).bind fun v => F h v) (fun f x c => N f x c ∨ M f x c) := by
  intro h Q hT
  obtain ⟨h', h1, h2⟩ := hA h Q hT
  obtain ⟨h'', g1, g2⟩ := hB h hT.1 h' _ h2
  refine ⟨h'', ?_, Tb_congr (fun f x c _ _ _ => by rw [or_assoc]) g2⟩
  show (act h).bind _ = _
  rw [h1, obs]; exact g1
def pcl (x : Nat) : Nat := if x / 8 = 0 ∨ x / 8 = 7 then 1 else 0
theorem pcl_lt (x : Nat) : pcl x < 2 := by unfold pcl; split <;> omega
theorem apw_ok (t : Nat) (h0 : jH) {s x : Nat} (hs : s < 64) (hx : x < 64) : Adds t h0 (fun h => f_Mt_addPawn t h (s : Int) (x : Int)) (fun f x' c => f = s ∧ x' = x ∧ c = pcl x) := by
  intro h Q hT
  show ∃ h', f_Mt_addPawn t h (s : Int) (x : Int) = some h' ∧ _
  unfold f_Mt_addPawn f_Mt_addPawn_j14 pcl
  rw [jshr3 (by omega) (by omega), jgd_pos (by omega), jgd_pos (by omega), jgd_pos (by omega), jgd_pos (by omega), Int.toNat_natCast]
  by_cases c1 : (x : Int) / 8 = 0
  · rw [if_pos c1, if_pos (by omega)]; exact ⟨_, rfl, Tb_add hT (c := 1) (by omega) hx hs⟩
  · rw [if_neg c1]
    by_cases c2 : (x : Int) / 8 = 7
    · rw [if_pos c2, if_pos (by omega)]; exact ⟨_, rfl, Tb_add hT (c := 1) (by omega) hx hs⟩
    · rw [if_neg c2, if_neg (by omega)]; exact ⟨_, rfl, Tb_add hT (c := 0) (by omega) hx hs⟩
def fwd (side : Int) : Int := if side = 0 then 1 else -1
theorem shf_fwd {s : Nat} {side : Int} (hS : side = 0 ∨ side = 1) (h : 8 ≤ s ∧ s < 56) : shf (s : Int) 0 (fwd side) = (s : Int) + ahd side := by
  unfold shf fwd ahd
  rcases hS with e | e <;> subst e
  · rw [if_pos rfl, if_pos rfl, if_neg (by omega), if_neg (by omega), if_neg (by omega), if_pos (by omega)]; omega
  · rw [show (if (1 : Int) = 0 then (1 : Int) else -1) = -1 by decide, show (if (1 : Int) = 0 then (8 : Int) else -8) = -8 by decide, if_neg (by omega), if_neg (by omega), if_neg (by omega), if_pos (by omega)]; omega
theorem ast_ok (t : Nat) (h0 : jH) {s : Nat} (ht : 11 ≤ t) (hS : h0 2 1 = 0 ∨ h0 2 1 = 1) (hs : 8 ≤ s ∧ s < 56) : Adds t h0 (fun h => f_Mt_addSteps t h (s : Int)) (fun f x c => f = s ∧ c = pcl x ∧ (stp1 (h0 3) (h0 2 1) s x ∨ stp2 (h0 3) (h0 2 1) s x)) := by
  intro h Q hT
  show ∃ h', f_Mt_addSteps t h (s : Int) = some h' ∧ _
  have e2 : ∀ g : jH, (∀ a, a ≠ t + 1 → a ≠ t + 2 → g a = h0 a) → g 2 = h0 2 := fun g q => q 2 (by omega) (by omega)
  have e3 : ∀ g : jH, (∀ a, a ≠ t + 1 → a ≠ t + 2 → g a = h0 a) → g 3 = h0 3 := fun g q => q 3 (by omega) (by omega)
  unfold f_Mt_addSteps
  rw [e2 h hT.1, e3 h hT.1, fw_ok]
  simp only [obs]
  have fr : -8 ≤ (if h0 2 1 = 0 then (1 : Int) else -1) ∧ (if h0 2 1 = 0 then (1 : Int) else -1) ≤ 8 := by split <;> omega
  rw [shf_ok h (by omega) (by omega) (by omega) (by omega) fr.1 fr.2]
  simp only [obs]
  have ef : (if h0 2 1 = 0 then (1 : Int) else -1) = fwd (h0 2 1) := rfl
  rw [ef, shf_fwd hS hs]
  have ha : ahd (h0 2 1) = 8 ∨ ahd (h0 2 1) = -8 := by unfold ahd; split <;> omega
  obtain ⟨x, hx⟩ : ∃ x : Nat, (s : Int) + ahd (h0 2 1) = (x : Int) := ⟨((s : Int) + ahd (h0 2 1)).toNat, by omega⟩
  have hx64 : x < 64 := by omega
  rw [hx, if_neg (by omega), jgd_pos (by omega), Int.toNat_natCast]
  by_cases c1 : h0 3 x = 0
  · rw [if_pos c1]
    obtain ⟨h', g1, g2⟩ := apw_ok t h0 (show s < 64 by omega) hx64 h Q hT
    rw [show f_Mt_addPawn t h (s : Int) (x : Int) = some h' from g1]
    simp only [obs]
    have fr' : -8 ≤ fwd (h0 2 1) ∧ fwd (h0 2 1) ≤ 8 := fr
    rw [shf_ok h' (by omega) (by omega) (by omega) (by omega) fr'.1 fr'.2, e2 h' g2.1, rf_ok h' hS (by omega) (by omega)]
    simp only [obs]
    rw [jshr3 (by omega) (by omega)]
    have one : ∀ y : Nat, y < 64 → (stp1 (h0 3) (h0 2 1) s y ↔ y = x) := by
      intro y hy
      unfold stp1
      rw [hx]
      constructor
      · rintro ⟨q, -⟩; omega
      · intro q; subst q; exact ⟨rfl, c1⟩
    have rk : (if h0 2 1 = 0 then (1 : Int) else 7 - 1) = (if h0 2 1 = 0 then 1 else 6) := by split <;> rfl
    rw [rk]
    by_cases c2 : (s : Int) / 8 = (if h0 2 1 = 0 then 1 else 6)
    · rw [if_pos c2]
      have e4 : shf (x : Int) 0 (fwd (h0 2 1)) = (x : Int) + ahd (h0 2 1) := by
        apply shf_fwd hS
        rcases hS with q | q <;> rw [q] at c2 ha hx <;> simp [ahd] at * <;> omega
      obtain ⟨y, hy⟩ : ∃ y : Nat, (x : Int) + ahd (h0 2 1) = (y : Int) := ⟨((x : Int) + ahd (h0 2 1)).toNat, by
        rcases hS with q | q <;> rw [q] at c2 ha hx ⊢ <;> simp [ahd] at * <;> omega⟩
      have hy64 : y < 64 := by
        rcases hS with q | q <;> rw [q] at c2 ha hx hy <;> simp [ahd] at * <;> omega
      rw [e4, hy, if_neg (by omega), jgd_pos (by omega), Int.toNat_natCast, e3 h' g2.1]
      have two : ∀ z : Nat, z < 64 → (stp2 (h0 3) (h0 2 1) s z ↔ z = y ∧ h0 3 y = 0) := by
        intro z hz
        unfold stp2
        rw [hx, Int.toNat_natCast]
        constructor
        · rintro ⟨q1, q2, q3, q4⟩
          have : z = y := by omega
          subst this
          exact ⟨rfl, q3⟩
        · rintro ⟨q1, q2⟩
          subst q1
          exact ⟨c2, by omega, q2, c1⟩
      by_cases c3 : h0 3 y = 0
      · rw [if_pos c3]
        obtain ⟨h'', k1, k2⟩ := apw_ok t h0 (show s < 64 by omega) hy64 h' _ g2
        rw [show f_Mt_addPawn t h' (s : Int) (y : Int) = some h'' from k1]
        simp only [obs]
        refine ⟨h'', rfl, Tb_congr (fun f z c hf hz hc => ?_) k2⟩
        simp only []
        rw [one z hz, two z hz, or_assoc]
        constructor
        · rintro (q | ⟨q1, q2, q3⟩ | ⟨q1, q2, q3⟩)
          · exact Or.inl q
          · exact Or.inr ⟨q1, by rw [q2]; exact q3, Or.inl q2⟩
          · exact Or.inr ⟨q1, by rw [q2]; exact q3, Or.inr ⟨q2, c3⟩⟩
        · rintro (q | ⟨q1, q2, q3 | q3⟩)
          · exact Or.inl q
          · exact Or.inr (Or.inl ⟨q1, q3, by rw [← q3]; exact q2⟩)
          · exact Or.inr (Or.inr ⟨q1, q3.1, by rw [← q3.1]; exact q2⟩)
      · rw [if_neg c3]
        refine ⟨h', rfl, Tb_congr (fun f z c hf hz hc => ?_) g2⟩
        simp only []
        rw [one z hz, two z hz]
        constructor
        · rintro (q | ⟨q1, q2, q3⟩)
          · exact Or.inl q
          · exact Or.inr ⟨q1, by rw [q2]; exact q3, Or.inl q2⟩
        · rintro (q | ⟨q1, q2, q3 | q3⟩)
          · exact Or.inl q
          · exact Or.inr ⟨q1, q3, by rw [← q3]; exact q2⟩
          · exact absurd q3.2 c3
    · rw [if_neg c2]
      refine ⟨h', rfl, Tb_congr (fun f z c hf hz hc => ?_) g2⟩
      simp only []
      rw [one z hz]
      constructor
      · rintro (q | ⟨q1, q2, q3⟩)
        · exact Or.inl q
        · exact Or.inr ⟨q1, by rw [q2]; exact q3, Or.inl q2⟩
      · rintro (q | ⟨q1, q2, q3 | q3⟩)
        · exact Or.inl q
        · exact Or.inr ⟨q1, q3, by rw [← q3]; exact q2⟩
        · exact absurd q3.1 c2
  · rw [if_neg c1]
    refine ⟨h, rfl, Tb_congr (fun f z c hf hz hc => ⟨Or.inl, ?_⟩) hT⟩
    rintro (q | ⟨q1, q2, q3 | q3⟩)
    · exact q
    · exfalso
      have : z = x := by have := q3.1; omega
      exact c1 (this ▸ q3.2)
    · exfalso
      have := q3.2.2.2
      rw [hx, Int.toNat_natCast] at this
      exact c1 this
def psq (side file : Int) : Int := if file = -1 then -1 else (if side = 0 then 40 else 16) + file
theorem psq_ok (h : jH) (hS : h 2 1 = 0 ∨ h 2 1 = 1) (hf0 : -1 ≤ h 2 3) (hf1 : h 2 3 ≤ 7) : f_Bd_passedSquare h = some (psq (h 2 1) (h 2 3)) := by
  unfold f_Bd_passedSquare psq f_X_otherSide
  by_cases c : h 2 3 = -1
  · rw [if_pos c, if_pos c]
  · rw [if_neg c, if_neg c, (side_sub hS).1]
    simp only [obs]
    rw [rf_ok h (side_sub hS).2 (by omega) (by omega)]
    simp only [obs]
    rcases hS with e | e <;> rw [e]
    · rw [if_neg (by decide), sq_ok h (by omega) hf1 (by decide) (by decide), if_pos rfl]
      simp only [obs]
      congr 1
    · rw [if_pos (by decide), sq_ok h (by omega) hf1 (by decide) (by decide), if_neg (by decide)]
      simp only [obs]
      congr 1
theorem mpt_ok (h : jH) {x : Nat} (hx : x < 64) (hS : h 2 1 = 0 ∨ h 2 1 = 1) (hf0 : -1 ≤ h 2 3) (hf1 : h 2 3 ≤ 7) : YN (f_Bd_mayPawnTake h (x : Int)) (sd (h 3 x) = 1 - h 2 1 ∨ (x : Int) = psq (h 2 1) (h 2 3)) := by
  unfold f_Bd_mayPawnTake f_X_otherSide
  rw [jgd_pos (by omega), Int.toNat_natCast, sd_ok, (side_sub hS).1]
  simp only [obs]
  by_cases c : sd (h 3 x) = 1 - h 2 1
  · rw [if_pos c]; exact yn1 (Or.inl c)
  · rw [if_neg c, psq_ok h hS hf0 hf1]
    simp only [obs]
    refine yn_iff (yn_of (v := 0)) ⟨Or.inr, ?_⟩
    rintro (q | q)
    · exact absurd q c
    · exact q
def tkA (h0 : jH) (s : Nat) (a : Int) (x : Nat) : Prop := shf (s : Int) a (fwd (h0 2 1)) = (x : Int) ∧ (sd (h0 3 x) = 1 - h0 2 1 ∨ (x : Int) = psq (h0 2 1) (h0 2 3))
theorem atk_step (t : Nat) (h0 : jH) {s : Nat} (ht : 11 ≤ t) (hS : h0 2 1 = 0 ∨ h0 2 1 = 1) (hf0 : -1 ≤ h0 2 3) (hf1 : h0 2 3 ≤ 7) (hs : s < 64) {a : Int} (ha : a = -1 ∨ a = 1) (n : Nat) (k : Int → jH → Option jH) (h : jH) (Q : Nat → Nat → Nat → Prop) (hT : Tb t h0 h Q) :
    ∃ h', f_Mt_addTakes_lp2 t (s : Int) k (n + 1) a h = f_Mt_addTakes_lp2 t (s : Int) k n (a + 2) h' ∧ Tb t h0 h' (fun f x c => Q f x c ∨ (f = s ∧ c = pcl x ∧ tkA h0 s a x)) := by
  have e2 : h 2 = h0 2 := hT.1 2 (by omega) (by omega)
  have e3 : h 3 = h0 3 := hT.1 3 (by omega) (by omega)
  have fr : -8 ≤ fwd (h0 2 1) ∧ fwd (h0 2 1) ≤ 8 := by unfold fwd; split <;> omega
  rw [f_Mt_addTakes_lp2, if_neg (by omega), fw_ok]
  simp only [obs]
  rw [e2, show (if h0 2 1 = 0 then (1 : Int) else -1) = fwd (h0 2 1) from rfl, shf_ok h (by omega) (by omega) (by omega) (by omega) fr.1 fr.2, jadd_eq (by omega) (by omega)]
  simp only [obs]
  rcases shf_rng (s : Int) a (fwd (h0 2 1)) with c | c
  · rw [c, if_pos rfl]
    refine ⟨h, rfl, Tb_congr (fun f x c' _ _ _ => ⟨Or.inl, ?_⟩) hT⟩
    rintro (q | q)
    · exact q
    · have := q.2.2.1; omega
  · obtain ⟨x, hx⟩ : ∃ x : Nat, shf (s : Int) a (fwd (h0 2 1)) = (x : Int) := ⟨(shf (s : Int) a (fwd (h0 2 1))).toNat, by omega⟩
    have hx64 : x < 64 := by omega
    rw [hx, if_neg (by omega)]
    have mp := mpt_ok h hx64 (by rw [e2]; exact hS) (by rw [e2]; exact hf0) (by rw [e2]; exact hf1)
    rw [e2, e3] at mp
    obtain ⟨v, v1, v2, v3⟩ := mp
    rw [v1]
    simp only [obs]
    by_cases cv : v = 0
    · rw [if_pos cv]
      refine ⟨h, rfl, Tb_congr (fun f z c' _ _ _ => ⟨Or.inl, ?_⟩) hT⟩
      rintro (q | q)
      · exact q
      · have hz : z = x := by have := q.2.2.1; omega
        have := v3.mpr (hz ▸ q.2.2.2)
        omega
    · rw [if_neg cv]
      obtain ⟨h', g1, g2⟩ := apw_ok t h0 hs hx64 h Q hT
      rw [show f_Mt_addPawn t h (s : Int) (x : Int) = some h' from g1]
      simp only [obs]
      refine ⟨h', rfl, Tb_congr (fun f z c' _ _ _ => ?_) g2⟩
      have mt := v3.mp (by omega)
      constructor
      · rintro (q | ⟨q1, q2, q3⟩)
        · exact Or.inl q
        · exact Or.inr ⟨q1, by rw [q2]; exact q3, by subst q2; exact ⟨hx, mt⟩⟩
      · rintro (q | ⟨q1, q2, q3, q4⟩)
        · exact Or.inl q
        · have hz : z = x := by omega
          exact Or.inr ⟨q1, hz, by rw [← hz]; exact q2⟩
theorem atk_ok (t : Nat) (h0 : jH) {s : Nat} (ht : 11 ≤ t) (hS : h0 2 1 = 0 ∨ h0 2 1 = 1) (hf0 : -1 ≤ h0 2 3) (hf1 : h0 2 3 ≤ 7) (hs : s < 64) : Adds t h0 (fun h => f_Mt_addTakes t h (s : Int)) (fun f x c => f = s ∧ c = pcl x ∧ (tkA h0 s (-1) x ∨ tkA h0 s 1 x)) := by
  intro h Q hT
  show ∃ h', f_Mt_addTakes t h (s : Int) = some h' ∧ _
  unfold f_Mt_addTakes
  obtain ⟨h1, g1, g2⟩ := atk_step t h0 ht hS hf0 hf1 hs (Or.inl rfl) 999 (fun l8 h9 => some h9) h Q hT
  obtain ⟨h2, k1, k2⟩ := atk_step t h0 ht hS hf0 hf1 hs (Or.inr rfl) 998 (fun l8 h9 => some h9) h1 _ g2
  refine ⟨h2, ?_, Tb_congr (fun f x c _ _ _ => ?_) k2⟩
  · rw [g1, show (-1 + 2 : Int) = 1 by decide, k1, f_Mt_addTakes_lp2, if_pos (by decide)]
  · constructor
    · rintro ((q | q) | q)
      · exact Or.inl q
      · exact Or.inr ⟨q.1, q.2.1, Or.inl q.2.2⟩
      · exact Or.inr ⟨q.1, q.2.1, Or.inr q.2.2⟩
    · rintro (q | ⟨q1, q2, q3 | q3⟩)
      · exact Or.inl (Or.inl q)
      · exact Or.inl (Or.inr ⟨q1, q2, q3⟩)
      · exact Or.inr ⟨q1, q2, q3⟩
