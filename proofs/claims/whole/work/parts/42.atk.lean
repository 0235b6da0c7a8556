/-! attacks on a square, as the class gathers them -/
theorem ray_lt : ∀ t, t < 64 → ∀ d, d < 8 → ∀ s ∈ ray t d, s < 64 ∧ s ≠ t := by decide +kernel
theorem fst1_rng (b : Nat → Int) (l : List Nat) : fst1 b l = -1 ∨ ∃ s ∈ l, fst1 b l = (s : Int) ∧ b s ≠ 0 := by
  induction l with
  | nil => exact Or.inl rfl
  | cons s l ih =>
    unfold fst1
    by_cases hb : b s = 0
    · rw [if_pos hb]
      rcases ih with h | ⟨x, h1, h2⟩
      · exact Or.inl h
      · exact Or.inr ⟨x, List.mem_cons_of_mem _ h1, h2⟩
    · rw [if_neg hb]
      exact Or.inr ⟨s, List.mem_cons_self, rfl, hb⟩
def BR (b : Nat → Int) : Prop := ∀ s, s < 64 → 0 ≤ b s ∧ b s ≤ 12
def attD (b : Nat → Int) (t : Nat) (side : Int) (d s : Nat) : Prop := (fst1 b (ray t d) = (s : Int) ∧ sd (b s) = side ∧ agn (b s) s t d) ∨ (shf (t : Int) (KF d) (KR d) = (s : Int) ∧ b s = (if side = 0 then 2 else 8))
def atk (b : Nat → Int) (t : Nat) (side : Int) (s : Nat) : Prop := ∃ d, d < 8 ∧ attD b t side d s
theorem po_ok (h : jH) {k side : Int} (h0 : 0 ≤ k) (h1 : k ≤ 6) : f_X_pieceOf h k side = some (if side = 0 then k else k + 6) := by
  unfold f_X_pieceOf
  rw [jadd_eq (by omega) (by omega)]
theorem ao_leap (h : jH) (r : Nat) {t d : Nat} {side v : Int} (hB : BR (h (r + 1))) (ht : t < 64) (hd : d < 8) (rc : Int → Int → Option Int) (k : Int → Int → Option Int) (hv : ok64 v) :
    ∃ w, f_Bd_attacksOn_j60_5 r rc k h (t : Int) side v (d : Int) = rc w ((d : Int) + 1) ∧ ok64 w ∧ ∀ s, s < 64 → (bt w s = true ↔ bt v s = true ∨ (shf (t : Int) (KF d) (KR d) = (s : Int) ∧ h (r + 1) s = (if side = 0 then 2 else 8))) := by
  obtain ⟨-, -, -, -, b5, b6, b7, b8⟩ := FS_b d hd
  obtain ⟨-, -, e3, e4⟩ := jxc_len
  unfold f_Bd_attacksOn_j60_5
  have eK : (jxc.getD 3 []).getD d 0 = KF d := rfl
  have eR : (jxc.getD 4 []).getD d 0 = KR d := rfl
  rw [e3, e4, jgd_pos (by omega), jgd_pos (by omega), Int.toNat_natCast, eK, eR, shf_ok h (by omega) (by omega) (by omega) (by omega) (by omega) (by omega)]
  simp only [Option.bind_some]
  rcases shf_rng (t : Int) (KF d) (KR d) with hq | hq
  · refine ⟨v, by rw [if_pos hq, jadd_eq (by omega) (by omega)], hv, fun s hs => ⟨Or.inl, fun z => ?_⟩⟩
    rcases z with z | z
    · exact z
    · omega
  · generalize shf (t : Int) (KF d) (KR d) = q at hq
    rw [if_neg (by omega), jgd_pos hq, po_ok h (by omega) (by omega)]
    simp only [Option.bind_some]
    rw [jadd_eq (a := (d : Int)) (by omega) (by omega), show (2 : Int) + 6 = 8 by decide]
    by_cases hb : h (r + 1) q.toNat = (if side = 0 then 2 else 8)
    · refine ⟨jlor v (jlshl 1 q), by rw [if_pos hb], jlor_ok _ _, fun s hs => ?_⟩
      rw [bt_or, bt_shl hq.1 hq.2 s hs, Bool.or_eq_true, decide_eq_true_eq]
      constructor
      · rintro (z | z)
        · exact Or.inl z
        · exact Or.inr ⟨by omega, by rw [z]; exact hb⟩
      · rintro (z | ⟨z1, z2⟩)
        · exact Or.inl z
        · exact Or.inr (by omega)
    · refine ⟨v, by rw [if_neg hb], hv, fun s hs => ⟨Or.inl, fun z => ?_⟩⟩
      rcases z with z | ⟨z1, z2⟩
      · exact z
      · have : q.toNat = s := by omega
        rw [this] at hb
        exact absurd z2 hb
theorem ao_lp (h : jH) (r : Nat) {t : Nat} {side : Int} (hB : BR (h (r + 1))) (ht : t < 64) (hsd : side = 0 ∨ side = 1) : ∀ (m n : Nat) (v : Int), m ≤ 8 → m < n → ok64 v →
    ∃ w, f_Bd_attacksOn_lp5 r h (t : Int) side (fun l12 _ => some l12) n v (8 - (m : Int)) = some w ∧ ok64 w ∧ ∀ s, s < 64 → (bt w s = true ↔ bt v s = true ∨ ∃ d, 8 - m ≤ d ∧ d < 8 ∧ attD (h (r + 1)) t side d s) := by
  intro m
  induction m with
  | zero =>
    intro n v hm hn hv
    cases n with
    | zero => omega
    | succ n =>
      refine ⟨v, by rw [f_Bd_attacksOn_lp5, if_pos (by omega)], hv, fun s hs => ⟨Or.inl, ?_⟩⟩
      rintro (z | ⟨d, z1, z2, -⟩)
      · exact z
      · omega
  | succ m ih =>
    intro n v hm hn hv
    cases n with
    | zero => omega
    | succ n =>
      have hd : 8 - (m + 1) < 8 := by omega
      have ed : (8 - ((m + 1 : Nat) : Int)) = ((8 - (m + 1) : Nat) : Int) := by omega
      have ed2 : (((8 - (m + 1) : Nat) : Int)) + 1 = 8 - (m : Int) := by omega
      rw [f_Bd_attacksOn_lp5, if_neg (by omega), ed]
      generalize 8 - (m + 1) = d at hd ed ed2
      rw [fa_ok h r ht hd]
      simp only [Option.bind_some]
      -- behind the ray: the leap, then the rest
      have fin : ∀ u, ok64 u → (∀ s, s < 64 → (bt u s = true ↔ bt v s = true ∨ (fst1 (h (r + 1)) (ray t d) = (s : Int) ∧ sd (h (r + 1) s) = side ∧ agn (h (r + 1) s) s t d))) →
          ∃ w, f_Bd_attacksOn_j60_5 r (f_Bd_attacksOn_lp5 r h (t : Int) side (fun l12 _ => some l12) n) (fun l12 _ => some l12) h (t : Int) side u (d : Int) = some w ∧ ok64 w ∧ ∀ s, s < 64 → (bt w s = true ↔ bt v s = true ∨ ∃ d', d ≤ d' ∧ d' < 8 ∧ attD (h (r + 1)) t side d' s) := by
        intro u hu hub
        obtain ⟨w1, g1, g2, g3⟩ := ao_leap h r (side := side) hB ht hd (f_Bd_attacksOn_lp5 r h (t : Int) side (fun l12 _ => some l12) n) (fun l12 _ => some l12) hu
        obtain ⟨w, k1, k2, k3⟩ := ih n w1 (by omega) (by omega) g2
        refine ⟨w, by rw [g1, ed2]; exact k1, k2, fun s hs => ?_⟩
        rw [k3 s hs, g3 s hs, hub s hs]
        constructor
        · rintro (((z | z) | z) | ⟨d', z1, z2, z3⟩)
          · exact Or.inl z
          · exact Or.inr ⟨d, Nat.le_refl _, hd, Or.inl z⟩
          · exact Or.inr ⟨d, Nat.le_refl _, hd, Or.inr z⟩
          · exact Or.inr ⟨d', by omega, z2, z3⟩
        · rintro (z | ⟨d', z1, z2, z3⟩)
          · exact Or.inl (Or.inl (Or.inl z))
          · by_cases hdd : d' = d
            · subst hdd
              rcases z3 with z3 | z3
              · exact Or.inl (Or.inl (Or.inr z3))
              · exact Or.inl (Or.inr z3)
            · exact Or.inr ⟨d', by omega, z2, z3⟩
      rcases fst1_rng (h (r + 1)) (ray t d) with hf | ⟨x, hx, hf, hb⟩
      · rw [if_pos hf]
        refine fin v hv (fun s hs => ⟨Or.inl, fun z => ?_⟩)
        rcases z with z | ⟨z, -⟩
        · exact z
        · omega
      · have hx2 := (ray_lt t ht d hd x hx).1
        have hbx := hB x hx2
        rw [hf, if_neg (by omega), jgd_pos (by omega), Int.toNat_natCast, sd_ok]
        simp only [Option.bind_some]
        by_cases hsx : sd (h (r + 1) x) = side
        · rw [if_pos hsx]
          obtain ⟨q, q1, q2, q3⟩ := agn_ok h r hx2 ht hd (by omega) hbx.2
          rw [q1]
          simp only [Option.bind_some]
          by_cases hq : q = 0
          · rw [if_pos hq]
            refine fin v hv (fun s hs => ⟨Or.inl, fun z => ?_⟩)
            rcases z with z | ⟨z1, z2, z3⟩
            · exact z
            · have : x = s := by omega
              subst this
              have := q3.mpr z3
              omega
          · rw [if_neg hq]
            refine fin _ (jlor_ok _ _) (fun s hs => ?_)
            rw [bt_or, bt_shl (by omega) (by omega) s hs, Bool.or_eq_true, decide_eq_true_eq, Int.toNat_natCast]
            constructor
            · rintro (z | z)
              · exact Or.inl z
              · subst z
                exact Or.inr ⟨hf, hsx, q3.mp (by omega)⟩
            · rintro (z | ⟨z1, -⟩)
              · exact Or.inl z
              · exact Or.inr (by omega)
        · rw [if_neg hsx]
          refine fin v hv (fun s hs => ⟨Or.inl, fun z => ?_⟩)
          rcases z with z | ⟨z1, z2, -⟩
          · exact z
          · have : x = s := by omega
            subst this
            exact absurd z2 hsx
theorem ao_ok (h : jH) (r : Nat) {t : Nat} {side : Int} (hB : BR (h (r + 1))) (ht : t < 64) (hsd : side = 0 ∨ side = 1) : ∃ v, f_Bd_attacksOn r h (t : Int) side = some v ∧ ok64 v ∧ ∀ s, s < 64 → (bt v s = true ↔ atk (h (r + 1)) t side s) := by
  obtain ⟨w, k1, k2, k3⟩ := ao_lp h r hB ht hsd 8 1000 0 (Nat.le_refl _) (by omega) ok64_0
  rw [show (8 - ((8 : Nat) : Int)) = 0 by decide] at k1
  refine ⟨w, k1, k2, fun s hs => ?_⟩
  rw [k3 s hs, bt_0]
  constructor
  · rintro (z | ⟨d, -, z2, z3⟩)
    · cases z
    · exact ⟨d, z2, z3⟩
  · rintro ⟨d, z2, z3⟩
    exact Or.inr ⟨d, by omega, z2, z3⟩
/-- attacked at all -/
def atd (b : Nat → Int) (t : Nat) (side : Int) : Prop := ∃ s, s < 64 ∧ atk b t side s
theorem ao_zero (h : jH) (r : Nat) {t : Nat} {side : Int} (hB : BR (h (r + 1))) (ht : t < 64) (hsd : side = 0 ∨ side = 1) : ∃ v, f_Bd_attacksOn r h (t : Int) side = some v ∧ (jcmp v 0 = 0 ↔ ¬ atd (h (r + 1)) t side) := by
  obtain ⟨v, h1, h2, h3⟩ := ao_ok h r hB ht hsd
  refine ⟨v, h1, ?_⟩
  rw [jcmp_0, bt_zero h2]
  constructor
  · rintro z ⟨s, hs, hk⟩
    have := (h3 s hs).mpr hk
    rw [z s hs] at this
    cases this
  · intro z i hi
    cases hb : bt v i with
    | false => rfl
    | true => exact absurd ⟨i, hi, (h3 i hi).mp hb⟩ z
