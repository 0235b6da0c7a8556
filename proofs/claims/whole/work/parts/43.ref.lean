/-! attacks as the reference tells them -/
def mb (h : jH) (p : Nat) : Nat → Int := fun k => h 25 (64 * p + k)
theorem pc_ok (h : jH) {p s : Nat} (hp : p < 304) (hs : s < 64) : f_M_piece h (p : Int) (s : Int) = some (mb h p s) := by
  unfold f_M_piece mb
  rw [jmul_eq (by omega) (by omega), jadd_eq (by omega) (by omega), jgd_pos (by omega), show (64 * (p : Int) + (s : Int)).toNat = 64 * p + s by omega]
theorem io_ok (h : jH) {p s : Nat} {side : Int} (hp : p < 304) (hs : s < 64) (hB : BR (mb h p)) (hsd : side = 0 ∨ side = 1) : f_M_isOf h (p : Int) (s : Int) side = some (if sd (mb h p s) = side then 1 else 0) := by
  unfold f_M_isOf
  rw [pc_ok h hp hs]
  simp only [Option.bind_some]
  obtain ⟨b0, b1⟩ := hB s hs
  generalize mb h p s = v at b0 b1
  unfold sd
  rcases hsd with rfl | rfl
  · rw [if_pos rfl]
    by_cases h0 : v = 0
    · rw [if_pos h0, if_pos (by omega)]; rfl
    · rw [if_neg h0, if_neg (by omega)]
      by_cases h6 : v ≤ 6
      · rw [if_pos h6, if_neg (by omega)]; rfl
      · rw [if_neg h6, if_pos (by omega)]; rfl
  · rw [if_neg (by decide)]
    by_cases h0 : v = 0
    · rw [if_pos h0, if_pos (by omega)]; rfl
    · rw [if_neg h0]
      by_cases h6 : v ≤ 6
      · rw [if_pos h6, if_pos (by omega)]; rfl
      · rw [if_neg h6, if_neg (by omega)]; rfl
def sgn (x : Int) : Int := if x ≤ 0 then if 0 ≤ x then 0 else -1 else 1
theorem sg_ok (h : jH) (x : Int) : f_M_signOf h x = some (sgn x) := rfl
theorem sgn_rng (x : Int) : -1 ≤ sgn x ∧ sgn x ≤ 1 := by unfold sgn; split <;> (try split) <;> omega
/-- from s towards t -/
def stp (s t : Nat) : Int := 8 * sgn ((t : Int) / 8 - (s : Int) / 8) + sgn ((t : Int) % 8 - (s : Int) % 8)
def wk : Nat → Int → Int → Int → List Nat
  | 0, _, _, _ => []
  | m + 1, x, st, t => if x = t then [] else x.toNat :: wk m (x + st) st t
def wkok : Nat → Int → Int → Int → Bool
  | 0, _, _, _ => false
  | m + 1, x, st, t => decide (x = t) || (decide (0 ≤ x) && decide (x < 64) && wkok m (x + st) st t)
def btw (s t : Nat) : List Nat := wk 8 ((s : Int) + stp s t) (stp s t) (t : Int)
def clr (b : Nat → Int) (s t : Nat) : Prop := ∀ x ∈ btw s t, b x = 0
theorem cl_stop (h : jH) (p t st : Int) (n : Nat) (x : Int) : f_M_isClear_lp39 h p t st (fun l11 _ => jgd (l11 = 0 ∨ l11 = 1) (some l11)) (n + 1) 0 x = some 0 := by
  rw [f_M_isClear_lp39]
  by_cases hx : x = t
  · rw [if_pos hx, jgd_pos (Or.inl rfl)]
  · rw [if_neg hx, if_pos rfl, jgd_pos (Or.inl rfl)]
theorem cl_lp (h : jH) {p : Nat} (hp : p < 304) (t st : Int) (hst0 : -9 ≤ st) (hst1 : st ≤ 9) : ∀ (m n : Nat) (x : Int), wkok m x st t = true → m < n →
    ∃ v, f_M_isClear_lp39 h (p : Int) t st (fun l11 _ => jgd (l11 = 0 ∨ l11 = 1) (some l11)) n 1 x = some v ∧ (v = 0 ∨ v = 1) ∧ (v = 1 ↔ ∀ y ∈ wk m x st t, mb h p y = 0) := by
  intro m
  induction m with
  | zero => intro n x hk; cases hk
  | succ m ih =>
    intro n x hk hn
    cases n with
    | zero => omega
    | succ n =>
      rw [f_M_isClear_lp39]
      unfold wk
      by_cases hx : x = t
      · rw [if_pos hx, if_pos hx, jgd_pos (Or.inr rfl)]
        exact ⟨1, rfl, Or.inr rfl, ⟨fun _ y hy => (by cases hy), fun _ => rfl⟩⟩
      · rw [if_neg hx, if_neg hx, if_neg (by decide)]
        unfold wkok at hk
        simp only [hx, decide_false, Bool.false_or, Bool.and_eq_true, decide_eq_true_eq] at hk
        obtain ⟨⟨hx0, hx1⟩, hk⟩ := hk
        have e : x = ((x.toNat : Nat) : Int) := by omega
        have hpc : f_M_piece h (p : Int) x = some (mb h p x.toNat) := by
          have := pc_ok h hp (s := x.toNat) (by omega)
          rw [← e] at this
          exact this
        rw [hpc]
        simp only [Option.bind_some]
        unfold f_M_isClear_j65_39
        rw [jadd_eq (by omega) (by omega)]
        by_cases hb : mb h p x.toNat = 0
        · rw [if_pos hb]
          obtain ⟨v, v1, v2, v3⟩ := ih n (x + st) hk (by omega)
          refine ⟨v, v1, v2, ?_⟩
          rw [v3]
          constructor
          · intro z y hy
            rcases List.mem_cons.mp hy with rfl | hy
            · exact hb
            · exact z y hy
          · intro z y hy
            exact z y (List.mem_cons_of_mem _ hy)
        · rw [if_neg hb]
          cases n with
          | zero => omega
          | succ n =>
            refine ⟨0, cl_stop h _ _ _ _ _, Or.inl rfl, fun z => (by cases z), fun z => ?_⟩
            exact absurd (z x.toNat List.mem_cons_self) hb
theorem wk_tab : ∀ s : Nat, s < 64 → ∀ t : Nat, t < 64 → s ≠ t → ((t : Int) % 8 - (s : Int) % 8 = 0 ∨ (t : Int) / 8 - (s : Int) / 8 = 0 ∨ (t : Int) % 8 - (s : Int) % 8 = (t : Int) / 8 - (s : Int) / 8 ∨ (t : Int) % 8 - (s : Int) % 8 = -((t : Int) / 8 - (s : Int) / 8)) → wkok 8 ((s : Int) + stp s t) (stp s t) (t : Int) = true := by decide +kernel
theorem stp_rng (s t : Nat) : -9 ≤ stp s t ∧ stp s t ≤ 9 := by
  unfold stp
  have h1 := sgn_rng ((t : Int) / 8 - (s : Int) / 8)
  have h2 := sgn_rng ((t : Int) % 8 - (s : Int) % 8)
  omega
theorem cl_ok (h : jH) {p s t : Nat} (hp : p < 304) (hs : s < 64) (ht : t < 64) (hne : s ≠ t) (hal : (t : Int) % 8 - (s : Int) % 8 = 0 ∨ (t : Int) / 8 - (s : Int) / 8 = 0 ∨ (t : Int) % 8 - (s : Int) % 8 = (t : Int) / 8 - (s : Int) / 8 ∨ (t : Int) % 8 - (s : Int) % 8 = -((t : Int) / 8 - (s : Int) / 8)) :
    ∃ v, f_M_isClear h (p : Int) (s : Int) (t : Int) = some v ∧ (v = 0 ∨ v = 1) ∧ (v = 1 ↔ clr (mb h p) s t) := by
  have hr := stp_rng s t
  obtain ⟨v, v1, v2, v3⟩ := cl_lp h hp (t : Int) (stp s t) hr.1 hr.2 8 1000 _ (wk_tab s hs t ht hne hal) (by omega)
  refine ⟨v, ?_, v2, v3⟩
  unfold f_M_isClear
  rw [jdiv_eq (by omega) (by omega) (by omega) (by omega), jdiv_eq (by omega) (by omega) (by omega) (by omega), jrem_eq (by omega) (by omega) (by omega) (by omega), jrem_eq (by omega) (by omega) (by omega) (by omega), jsub_eq (by omega) (by omega), jsub_eq (by omega) (by omega), sg_ok, sg_ok]
  simp only [Option.bind_some]
  have h1 := sgn_rng ((t : Int) / 8 - (s : Int) / 8)
  have h2 := sgn_rng ((t : Int) % 8 - (s : Int) % 8)
  rw [jmul_eq (by omega) (by omega), jadd_eq (by omega) (by omega)]
  show f_M_isClear_lp39 h (p : Int) (t : Int) (stp s t) _ 1000 1 (jadd (s : Int) (stp s t)) = _
  rw [jadd_eq (by omega) (by omega)]
  exact v1
theorem siz_ok (h : jH) {a : Int} (h0 : -1000 < a) (h1 : a < 1000) : f_M_size h a = some (iab a) := by
  unfold f_M_size iab
  rw [jneg_eq (by omega) (by omega)]
def dfl (s t : Nat) : Int := iab ((t : Int) % 8 - (s : Int) % 8)
def drk (s t : Nat) : Int := iab ((t : Int) / 8 - (s : Int) / 8)
def attR (b : Nat → Int) (s t : Nat) : Prop :=
  (kd (b s) = 1 ∧ dfl s t = 1 ∧ (t : Int) / 8 - (s : Int) / 8 = (if b s = 1 then 1 else -1)) ∨ (kd (b s) = 2 ∧ dfl s t * drk s t = 2) ∨ (kd (b s) = 3 ∧ dfl s t = drk s t ∧ 0 < dfl s t ∧ clr b s t) ∨
  (kd (b s) = 4 ∧ (dfl s t = 0 ↔ drk s t ≠ 0) ∧ clr b s t) ∨ (kd (b s) = 5 ∧ ((dfl s t = 0 ↔ drk s t ≠ 0) ∨ (dfl s t = drk s t ∧ 0 < dfl s t)) ∧ clr b s t) ∨ (kd (b s) = 6 ∧ dfl s t ≤ 1 ∧ drk s t ≤ 1 ∧ 0 < dfl s t + drk s t)
theorem iab_cases (x : Int) : (iab x = x ∧ 0 ≤ x) ∨ (iab x = -x ∧ x < 0) := by
  unfold iab
  by_cases h : 0 ≤ x
  · rw [if_pos h]; exact Or.inl ⟨rfl, h⟩
  · rw [if_neg h]; exact Or.inr ⟨rfl, by omega⟩
theorem cl_str (h : jH) {p s t : Nat} (hp : p < 304) (hs : s < 64) (ht : t < 64) (hc : (dfl s t = 0 ↔ drk s t ≠ 0) ∨ (dfl s t = drk s t ∧ 0 < dfl s t)) : ∃ v, f_M_isClear h (p : Int) (s : Int) (t : Int) = some v ∧ (v = 0 ∨ v = 1) ∧ (v = 1 ↔ clr (mb h p) s t) := by
  have h1 := iab_cases ((t : Int) % 8 - (s : Int) % 8)
  have h2 := iab_cases ((t : Int) / 8 - (s : Int) / 8)
  unfold dfl drk at hc
  refine cl_ok h hp hs ht (fun e => ?_) ?_
  · subst e
    rcases hc with hc | hc <;> omega
  · rcases hc with hc | hc <;> omega
theorem kd_cases {v : Int} (h0 : 0 ≤ v) (h1 : v ≤ 12) : kd v = 0 ∨ kd v = 1 ∨ kd v = 2 ∨ kd v = 3 ∨ kd v = 4 ∨ kd v = 5 ∨ kd v = 6 := by
  unfold kd
  split <;> omega
set_option maxHeartbeats 4000000 in
theorem da_ok (h : jH) {p s t : Nat} (hp : p < 304) (hs : s < 64) (ht : t < 64) (hB : BR (mb h p)) : ∃ v, f_M_doesAttack h (p : Int) (s : Int) (t : Int) = some v ∧ (v = 0 ∨ v = 1) ∧ (v = 1 ↔ attR (mb h p) s t) := by
  obtain ⟨b0, b1⟩ := hB s hs
  unfold f_M_doesAttack
  rw [pc_ok h hp hs]
  simp only [Option.bind_some]
  rw [jdiv_eq (by omega) (by omega) (by omega) (by omega), jdiv_eq (by omega) (by omega) (by omega) (by omega), jrem_eq (by omega) (by omega) (by omega) (by omega), jrem_eq (by omega) (by omega) (by omega) (by omega), jsub_eq (by omega) (by omega), jsub_eq (by omega) (by omega), siz_ok h (by omega) (by omega), siz_ok h (by omega) (by omega)]
  simp only [Option.bind_some]
  have hf0 : 0 ≤ dfl s t := iab_rng _
  have hr0 : 0 ≤ drk s t := iab_rng _
  have hf8 : dfl s t ≤ 7 := by unfold dfl; have := iab_cases ((t : Int) % 8 - (s : Int) % 8); omega
  have hr8 : drk s t ≤ 7 := by unfold drk; have := iab_cases ((t : Int) / 8 - (s : Int) / 8); omega
  have hcl := cl_str h hp hs ht
  show ∃ v, f_M_doesAttack_j46 h (p : Int) (s : Int) (t : Int) (mb h p s) (dfl s t) (drk s t) (if dfl s t = 0 then 1 else 0) = some v ∧ (v = 0 ∨ v = 1) ∧ (v = 1 ↔ attR (mb h p) s t)
  unfold f_M_doesAttack_j46 f_M_doesAttack_j56 f_M_doesAttack_j64
  -- the two flags
  have fin : ∀ (st ac : Int), (st = 1 ↔ (dfl s t = 0 ↔ drk s t ≠ 0)) → (st = 0 ∨ st = 1) → (ac = 1 ↔ (dfl s t = drk s t ∧ 0 < dfl s t)) → (ac = 0 ∨ ac = 1) → ∃ v, f_M_doesAttack_j83 h (p : Int) (s : Int) (t : Int) (mb h p s) (dfl s t) (drk s t) st ac = some v ∧ (v = 0 ∨ v = 1) ∧ (v = 1 ↔ attR (mb h p) s t) := by
    intro st ac e1 e2 e3 e4
    unfold f_M_doesAttack_j83 attR
    rw [kdM_ok h b0 b1]
    simp only [Option.bind_some]
    unfold f_M_doesAttack_j154 f_M_doesAttack_j230
    rcases kd_cases b0 b1 with k | k | k | k | k | k | k <;> rw [k]
    · exact ⟨0, by simp, Or.inl rfl, by simp⟩
    · rw [if_pos rfl, jdiv_eq (by omega) (by omega) (by omega) (by omega), jdiv_eq (by omega) (by omega) (by omega) (by omega), jsub_eq (by omega) (by omega)]
      by_cases hd : dfl s t = 1
      · rw [if_pos hd]
        by_cases hq : (t : Int) / 8 - (s : Int) / 8 = (if mb h p s = 1 then 1 else -1)
        · exact ⟨1, by rw [if_pos hq], Or.inr rfl, by simp [hd, hq]⟩
        · exact ⟨0, by rw [if_neg hq], Or.inl rfl, by simp [hd, hq]⟩
      · exact ⟨0, by rw [if_neg hd], Or.inl rfl, by simp [hd]⟩
    · rw [if_neg (by decide), if_pos rfl]
      have hm : dfl s t * drk s t ≤ 49 := by
        have := Int.mul_le_mul hf8 hr8 hr0 (by decide : (0 : Int) ≤ 7)
        simpa using this
      have hm0 : 0 ≤ dfl s t * drk s t := Int.mul_nonneg hf0 hr0
      rw [jmul_eq (by omega) (by omega)]
      by_cases hq : dfl s t * drk s t = 2
      · exact ⟨1, by rw [if_pos hq], Or.inr rfl, by simp [hq]⟩
      · exact ⟨0, by rw [if_neg hq], Or.inl rfl, by simp [hq]⟩
    · rw [if_neg (by decide), if_neg (by decide), if_pos rfl]
      rcases e4 with e4 | e4
      · have : ¬ (dfl s t = drk s t ∧ 0 < dfl s t) := fun z => by have := e3.mpr z; omega
        exact ⟨0, by rw [if_pos e4], Or.inl rfl, by simp; intro z1 z2; exact absurd ⟨z1, z2⟩ this⟩
      · have hh := e3.mp e4
        obtain ⟨v, v1, v2, v3⟩ := hcl (Or.inr hh)
        rw [if_neg (by omega), v1]
        simp only [Option.bind_some]
        rcases v2 with v2 | v2
        · have hn : ¬ clr (mb h p) s t := fun z => by have := v3.mpr z; omega
          exact ⟨0, by rw [if_pos v2], Or.inl rfl, by simp [hn]⟩
        · exact ⟨1, by rw [if_neg (by omega)], Or.inr rfl, by simp [v3.mp v2, hh.1]; rw [← hh.1]; exact hh.2⟩
    · rw [if_neg (by decide), if_neg (by decide), if_neg (by decide), if_pos rfl]
      rcases e2 with e2 | e2
      · have : ¬ (dfl s t = 0 ↔ drk s t ≠ 0) := fun z => by have := e1.mpr z; omega
        exact ⟨0, by rw [if_pos e2], Or.inl rfl, ⟨fun z => (by cases z), fun z => by simp at z; exact absurd (by simpa using z.1) this⟩⟩
      · have hh := e1.mp e2
        obtain ⟨v, v1, v2, v3⟩ := hcl (Or.inl hh)
        rw [if_neg (by omega), v1]
        simp only [Option.bind_some]
        rcases v2 with v2 | v2
        · have hn : ¬ clr (mb h p) s t := fun z => by have := v3.mpr z; omega
          exact ⟨0, by rw [if_pos v2], Or.inl rfl, by simp [hn]⟩
        · exact ⟨1, by rw [if_neg (by omega)], Or.inr rfl, ⟨fun _ => Or.inr (Or.inr (Or.inr (Or.inl ⟨trivial, hh, v3.mp v2⟩))), fun _ => rfl⟩⟩
    · rw [if_neg (by decide), if_neg (by decide), if_neg (by decide), if_neg (by decide), if_pos rfl]
      by_cases hor : (dfl s t = 0 ↔ drk s t ≠ 0) ∨ (dfl s t = drk s t ∧ 0 < dfl s t)
      · obtain ⟨v, v1, v2, v3⟩ := hcl hor
        have e : (if st = 0 then if ac = 0 then some 0 else (f_M_isClear h (p : Int) (s : Int) (t : Int)).bind fun v49 => some (if v49 = 0 then 0 else 1) else (f_M_isClear h (p : Int) (s : Int) (t : Int)).bind fun v49 => some (if v49 = 0 then 0 else 1)) = (f_M_isClear h (p : Int) (s : Int) (t : Int)).bind fun v49 => some (if v49 = 0 then (0 : Int) else 1) := by
          rcases hor with ho | ho
          · rw [if_neg (by have := e1.mpr ho; omega)]
          · by_cases hst : st = 0
            · rw [if_pos hst, if_neg (by have := e3.mpr ho; omega)]
            · rw [if_neg hst]
        rw [e, v1]
        simp only [Option.bind_some]
        rcases v2 with v2 | v2
        · have hn : ¬ clr (mb h p) s t := fun z => by have := v3.mpr z; omega
          exact ⟨0, by rw [if_pos v2], Or.inl rfl, by simp [hn]⟩
        · exact ⟨1, by rw [if_neg (by omega)], Or.inr rfl, ⟨fun _ => Or.inr (Or.inr (Or.inr (Or.inr (Or.inl ⟨trivial, hor, v3.mp v2⟩)))), fun _ => rfl⟩⟩
      · have n1 : ¬ (dfl s t = 0 ↔ drk s t ≠ 0) := fun z => hor (Or.inl z)
        have n2 : ¬ (dfl s t = drk s t ∧ 0 < dfl s t) := fun z => hor (Or.inr z)
        have s0 : st = 0 := by rcases e2 with z | z; exact z; exact absurd (e1.mp z) n1
        have a0 : ac = 0 := by rcases e4 with z | z; exact z; exact absurd (e3.mp z) n2
        refine ⟨0, by rw [if_pos s0, if_pos a0], Or.inl rfl, ⟨fun z => (by cases z), fun z => ?_⟩⟩
        rcases z with z | z | z | z | z | z
        · cases z.1
        · cases z.1
        · cases z.1
        · cases z.1
        · exact absurd z.2.1 hor
        · cases z.1
    · rw [if_neg (by decide), if_neg (by decide), if_neg (by decide), if_neg (by decide), if_neg (by decide), if_pos rfl, jadd_eq (by omega) (by omega)]
      by_cases q1 : 1 < dfl s t
      · exact ⟨0, by rw [if_pos q1], Or.inl rfl, by simp; omega⟩
      · rw [if_neg q1]
        by_cases q2 : 1 < drk s t
        · exact ⟨0, by rw [if_pos q2], Or.inl rfl, by simp; omega⟩
        · rw [if_neg q2]
          by_cases q3 : dfl s t + drk s t ≤ 0
          · exact ⟨0, by rw [if_pos q3], Or.inl rfl, by simp; omega⟩
          · exact ⟨1, by rw [if_neg q3], Or.inr rfl, by simp; omega⟩
  -- the flag of straight lines
  have est : ∀ x y : Int, ((if (if x = 0 then (1 : Int) else 0) = (if y = 0 then 1 else 0) then (0 : Int) else 1) = 1 ↔ (x = 0 ↔ y ≠ 0)) ∧ ((if (if x = 0 then (1 : Int) else 0) = (if y = 0 then 1 else 0) then (0 : Int) else 1) = 0 ∨ (if (if x = 0 then (1 : Int) else 0) = (if y = 0 then 1 else 0) then (0 : Int) else 1) = 1) := by
    intro x y
    by_cases hx : x = 0 <;> by_cases hy : y = 0 <;> simp [hx, hy]
  obtain ⟨est1, est2⟩ := est (dfl s t) (drk s t)
  by_cases q1 : dfl s t = drk s t
  · rw [if_pos q1]
    by_cases q2 : dfl s t ≤ 0
    · rw [if_pos q2]
      unfold f_M_doesAttack_j82
      exact fin _ 0 est1 est2 ⟨fun z => (by cases z), fun z => (by omega)⟩ (Or.inl rfl)
    · rw [if_neg q2]
      exact fin _ 1 est1 est2 ⟨fun _ => ⟨q1, by omega⟩, fun _ => rfl⟩ (Or.inr rfl)
  · rw [if_neg q1]
    unfold f_M_doesAttack_j82
    exact fin _ 0 est1 est2 ⟨fun z => (by cases z), fun z => absurd z.1 q1⟩ (Or.inl rfl)
