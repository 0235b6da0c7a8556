/-! is a square attacked: the reference's way -/
def onb (rk fl : Int) : Prop := 0 ≤ rk ∧ rk < 8 ∧ 0 ≤ fl ∧ fl < 8
def enc (rk fl : Int) : Int := if 0 ≤ rk ∧ rk < 8 ∧ 0 ≤ fl ∧ fl < 8 then 8 * rk + fl else -1
theorem enc_shf {rk fl f r : Int} (h : onb rk fl) : shf (8 * rk + fl) f r = enc (rk + r) (fl + f) := by
  obtain ⟨h1, h2, h3, h4⟩ := h
  unfold shf enc
  rw [show (8 * rk + fl) % 8 = fl by omega, show (8 * rk + fl) / 8 = rk by omega]
  by_cases a1 : fl + f < 0
  · rw [if_pos a1, if_neg (by omega)]
  · rw [if_neg a1]
    by_cases a2 : 7 < fl + f
    · rw [if_pos a2, if_neg (by omega)]
    · rw [if_neg a2]
      by_cases a3 : rk + r < 0
      · rw [if_pos a3, if_neg (by omega)]
      · rw [if_neg a3]
        by_cases a4 : rk + r ≤ 7
        · rw [if_pos a4, if_pos (by omega)]
        · rw [if_neg a4, if_neg (by omega)]
def hit (b : Nat → Int) (t : Nat) (side : Int) (l : List Nat) : Prop := ∃ x : Nat, fst1 b l = (x : Int) ∧ sd (b x) = side ∧ attR b x t
theorem sn_lp (h : jH) {p t d : Nat} {side : Int} (hp : p < 304) (ht : t < 64) (hd : d < 8) (hB : BR (mb h p)) (hsd : side = 0 ∨ side = 1) : ∀ (m n : Nat) (rk fl : Int), -20 ≤ rk → rk ≤ 20 → -20 ≤ fl → fl ≤ 20 → m ≤ 7 → ¬ onb (rk + m * RS d) (fl + m * FS d) → m < n →
    ∃ v, f_M_isSeen_lp18 h (p : Int) (t : Int) side (RS d) (FS d) (fun _ _ => some 0) n rk fl = some v ∧ (v = 0 ∨ v = 1) ∧ (v = 1 ↔ hit (mb h p) t side (rayF m (enc rk fl) d)) := by
  intro m
  obtain ⟨b1, b2, b3, b4, -⟩ := FS_b d hd
  have off : ∀ (n : Nat) (rk fl : Int), ¬ onb rk fl → f_M_isSeen_lp18 h (p : Int) (t : Int) side (RS d) (FS d) (fun _ _ => some 0) (n + 1) rk fl = some 0 := by
    intro n rk fl ho
    rw [f_M_isSeen_lp18]
    by_cases a1 : rk < 0
    · rw [if_pos a1]
    · rw [if_neg a1]
      by_cases a2 : 8 ≤ rk
      · rw [if_pos a2]
      · rw [if_neg a2]
        by_cases a3 : fl < 0
        · rw [if_pos a3]
        · rw [if_neg a3]
          by_cases a4 : 8 ≤ fl
          · rw [if_pos a4]
          · exact absurd ⟨by omega, by omega, by omega, by omega⟩ ho
  have nohit : ∀ (rk fl : Int) (m : Nat), ¬ onb rk fl → ¬ hit (mb h p) t side (rayF m (enc rk fl) d) := by
    rintro rk fl m ho ⟨x, hx, -⟩
    have e : enc rk fl = -1 := by unfold enc; exact if_neg ho
    rw [e] at hx
    cases m with
    | zero => unfold rayF fst1 at hx; omega
    | succ m => unfold rayF at hx; rw [if_pos rfl] at hx; unfold fst1 at hx; omega
  induction m with
  | zero =>
    intro n rk fl r0 r1 f0 f1 hm ho hn
    cases n with
    | zero => omega
    | succ n =>
      have ho' : ¬ onb rk fl := by simpa using ho
      exact ⟨0, off n rk fl ho', Or.inl rfl, ⟨fun z => (by cases z), fun z => absurd z (nohit rk fl 0 ho')⟩⟩
  | succ m ih =>
    intro n rk fl r0 r1 f0 f1 hm ho hn
    cases n with
    | zero => omega
    | succ n =>
      by_cases hon : onb rk fl
      · have hon2 := hon
        obtain ⟨q1, q2, q3, q4⟩ := hon
        rw [f_M_isSeen_lp18, if_neg (by omega), if_neg (by omega), if_neg (by omega), if_neg (by omega)]
        have ee : enc rk fl = 8 * rk + fl := by unfold enc; exact if_pos hon2
        have hx : ∃ x : Nat, x < 64 ∧ 8 * rk + fl = (x : Int) := ⟨(8 * rk + fl).toNat, by omega, by omega⟩
        obtain ⟨x, hx1, hx2⟩ := hx
        rw [jmul_eq (by omega) (by omega), jadd_eq (by omega) (by omega), hx2, pc_ok h hp hx1]
        simp only [Option.bind_some]
        have er : rayF (m + 1) (enc rk fl) d = x :: rayF m (enc (rk + RS d) (fl + FS d)) d := by
          conv => lhs; unfold rayF
          rw [if_neg (by omega), ← enc_shf hon2, ee, hx2, Int.toNat_natCast]
        rw [er]
        by_cases hb : mb h p x = 0
        · rw [if_pos hb, jadd_eq (by omega) (by omega), jadd_eq (by omega) (by omega)]
          obtain ⟨v, v1, v2, v3⟩ := ih n (rk + RS d) (fl + FS d) (by omega) (by omega) (by omega) (by omega) (by omega) (by
            intro z
            apply ho
            have e1 : rk + ((m + 1 : Nat) : Int) * RS d = rk + RS d + (m : Int) * RS d := by rw [Int.natCast_add, Int.add_mul]; omega
            have e2 : fl + ((m + 1 : Nat) : Int) * FS d = fl + FS d + (m : Int) * FS d := by rw [Int.natCast_add, Int.add_mul]; omega
            rw [e1, e2]; exact z) (by omega)
          refine ⟨v, v1, v2, v3.trans ?_⟩
          unfold hit
          have e3 : fst1 (mb h p) (x :: rayF m (enc (rk + RS d) (fl + FS d)) d) = fst1 (mb h p) (rayF m (enc (rk + RS d) (fl + FS d)) d) := by
            conv => lhs; unfold fst1
            rw [if_pos hb]
          rw [e3]
        · have e3 : fst1 (mb h p) (x :: rayF m (enc (rk + RS d) (fl + FS d)) d) = (x : Int) := by
            conv => lhs; unfold fst1
            rw [if_neg hb]
          rw [if_neg hb, io_ok h hp hx1 hB hsd]
          simp only [Option.bind_some]
          by_cases hs : sd (mb h p x) = side
          · rw [if_pos hs, if_neg (by decide)]
            obtain ⟨v, v1, v2, v3⟩ := da_ok h hp hx1 ht hB
            rw [v1]
            simp only [Option.bind_some]
            have key : hit (mb h p) t side (x :: rayF m (enc (rk + RS d) (fl + FS d)) d) ↔ attR (mb h p) x t := by
              constructor
              · rintro ⟨y, y1, y2, y3⟩
                rw [e3] at y1
                have : x = y := by omega
                subst this
                exact y3
              · intro z
                exact ⟨x, e3, hs, z⟩
            rw [key]
            rcases v2 with v2 | v2
            · refine ⟨0, by rw [if_pos v2], Or.inl rfl, ⟨fun z => (by cases z), fun z => ?_⟩⟩
              have := v3.mpr z
              omega
            · exact ⟨1, by rw [if_neg (by omega)], Or.inr rfl, ⟨fun _ => v3.mp v2, fun _ => rfl⟩⟩
          · rw [if_neg hs, if_pos rfl]
            refine ⟨0, rfl, Or.inl rfl, ⟨fun z => (by cases z), ?_⟩⟩
            rintro ⟨y, y1, y2, y3⟩
            rw [e3] at y1
            have : x = y := by omega
            subst this
            exact absurd y2 hs
      · exact ⟨0, off n rk fl hon, Or.inl rfl, ⟨fun z => (by cases z), fun z => absurd z (nohit rk fl _ hon)⟩⟩
theorem ray_off : ∀ t : Nat, t < 64 → ∀ d, d < 8 → ¬ (0 ≤ (t : Int) / 8 + RS d + 7 * RS d ∧ (t : Int) / 8 + RS d + 7 * RS d < 8 ∧ 0 ≤ (t : Int) % 8 + FS d + 7 * FS d ∧ (t : Int) % 8 + FS d + 7 * FS d < 8) := by decide +kernel
theorem sn_ok (h : jH) {p t d : Nat} {side : Int} (hp : p < 304) (ht : t < 64) (hd : d < 8) (hB : BR (mb h p)) (hsd : side = 0 ∨ side = 1) :
    ∃ v, f_M_isSeen h (p : Int) (t : Int) side (RS d) (FS d) = some v ∧ (v = 0 ∨ v = 1) ∧ (v = 1 ↔ hit (mb h p) t side (ray t d)) := by
  obtain ⟨b1, b2, b3, b4, -⟩ := FS_b d hd
  unfold f_M_isSeen
  rw [jdiv_eq (by omega) (by omega) (by omega) (by omega), jrem_eq (by omega) (by omega) (by omega) (by omega), jadd_eq (by omega) (by omega), jadd_eq (by omega) (by omega)]
  obtain ⟨v, v1, v2, v3⟩ := sn_lp h hp ht hd hB hsd 7 1000 ((t : Int) / 8 + RS d) ((t : Int) % 8 + FS d) (by omega) (by omega) (by omega) (by omega) (by omega) (fun z => ray_off t ht d hd z) (by omega)
  refine ⟨v, v1, v2, v3.trans ?_⟩
  unfold ray
  rw [← enc_shf (rk := (t : Int) / 8) (fl := (t : Int) % 8) ⟨by omega, by omega, by omega, by omega⟩, show 8 * ((t : Int) / 8) + (t : Int) % 8 = (t : Int) by omega]
def lep (b : Nat → Int) (t : Nat) (side : Int) (d : Nat) : Prop := ∃ x : Nat, shf (t : Int) (KF d) (KR d) = (x : Int) ∧ sd (b x) = side ∧ kd (b x) = 2
theorem jm_ok (h : jH) {p t d : Nat} {side : Int} (hp : p < 304) (ht : t < 64) (hd : d < 8) (hB : BR (mb h p)) (hsd : side = 0 ∨ side = 1) :
    ∃ v, f_M_isJumped h (p : Int) (t : Int) side (KR d) (KF d) = some v ∧ (v = 0 ∨ v = 1) ∧ (v = 1 ↔ lep (mb h p) t side d) := by
  obtain ⟨-, -, -, -, b5, b6, b7, b8⟩ := FS_b d hd
  unfold f_M_isJumped f_M_isJumped_j46
  rw [jdiv_eq (by omega) (by omega) (by omega) (by omega), jrem_eq (by omega) (by omega) (by omega) (by omega), jadd_eq (by omega) (by omega), jadd_eq (by omega) (by omega)]
  have es : shf (t : Int) (KF d) (KR d) = enc ((t : Int) / 8 + KR d) ((t : Int) % 8 + KF d) := by
    rw [← enc_shf (rk := (t : Int) / 8) (fl := (t : Int) % 8) ⟨by omega, by omega, by omega, by omega⟩, show 8 * ((t : Int) / 8) + (t : Int) % 8 = (t : Int) by omega]
  have j0 : ∀ rk fl : Int, f_M_isJumped_j47 h (p : Int) side rk fl 0 = some 0 := fun rk fl => by unfold f_M_isJumped_j47; rw [if_pos rfl]
  by_cases hon : onb ((t : Int) / 8 + KR d) ((t : Int) % 8 + KF d)
  · have hon2 := hon
    obtain ⟨q1, q2, q3, q4⟩ := hon
    rw [if_neg (by omega), if_neg (by omega), if_neg (by omega), if_neg (by omega)]
    have ee : enc ((t : Int) / 8 + KR d) ((t : Int) % 8 + KF d) = 8 * ((t : Int) / 8 + KR d) + ((t : Int) % 8 + KF d) := by unfold enc; exact if_pos hon2
    have hx : ∃ x : Nat, x < 64 ∧ 8 * ((t : Int) / 8 + KR d) + ((t : Int) % 8 + KF d) = (x : Int) := ⟨(8 * ((t : Int) / 8 + KR d) + ((t : Int) % 8 + KF d)).toNat, by omega, by omega⟩
    obtain ⟨x, hx1, hx2⟩ := hx
    unfold f_M_isJumped_j47
    rw [if_neg (by decide), jmul_eq (by omega) (by omega), jadd_eq (by omega) (by omega), hx2, io_ok h hp hx1 hB hsd, pc_ok h hp hx1]
    simp only [Option.bind_some]
    obtain ⟨b0, b1⟩ := hB x hx1
    rw [kdM_ok h b0 b1]
    simp only [Option.bind_some]
    have key : lep (mb h p) t side d ↔ sd (mb h p x) = side ∧ kd (mb h p x) = 2 := by
      unfold lep
      rw [es, ee, hx2]
      constructor
      · rintro ⟨y, y1, y2⟩
        have : x = y := by omega
        subst this
        exact y2
      · intro z
        exact ⟨x, rfl, z⟩
    rw [key]
    by_cases hs : sd (mb h p x) = side
    · rw [if_pos hs, if_neg (by decide)]
      by_cases hk : kd (mb h p x) = 2
      · exact ⟨1, by rw [if_pos hk], Or.inr rfl, ⟨fun _ => ⟨hs, hk⟩, fun _ => rfl⟩⟩
      · exact ⟨0, by rw [if_neg hk], Or.inl rfl, ⟨fun z => (by cases z), fun z => absurd z.2 hk⟩⟩
    · rw [if_neg hs, if_pos rfl]
      exact ⟨0, rfl, Or.inl rfl, ⟨fun z => (by cases z), fun z => absurd z.1 hs⟩⟩
  · have no : ¬ lep (mb h p) t side d := by
      rintro ⟨x, hx, -⟩
      rw [es] at hx
      unfold enc at hx
      rw [if_neg (show ¬ (0 ≤ (t : Int) / 8 + KR d ∧ (t : Int) / 8 + KR d < 8 ∧ 0 ≤ (t : Int) % 8 + KF d ∧ (t : Int) % 8 + KF d < 8) from hon)] at hx
      omega
    refine ⟨0, ?_, Or.inl rfl, ⟨fun z => (by cases z), fun z => absurd z no⟩⟩
    by_cases a1 : (t : Int) / 8 + KR d < 0
    · rw [if_pos a1, j0]
    · rw [if_neg a1]
      by_cases a2 : 8 ≤ (t : Int) / 8 + KR d
      · rw [if_pos a2, j0]
      · rw [if_neg a2]
        by_cases a3 : (t : Int) % 8 + KF d < 0
        · rw [if_pos a3, j0]
        · rw [if_neg a3]
          by_cases a4 : 8 ≤ (t : Int) % 8 + KF d
          · rw [if_pos a4, j0]
          · exact absurd ⟨by omega, by omega, by omega, by omega⟩ hon
