/-! typed letters -/
def byt (w : Int) (i : Nat) : Int := ((uv w / 2 ^ (8 * i) % 256 : Nat) : Int)
theorem byt_rng (w : Int) (i : Nat) : 0 ≤ byt w i ∧ byt w i < 256 := by unfold byt; omega
theorem sh_tab : ∀ i : Nat, i < 8 → ((Int32.ofInt (8 * (i : Int))).toInt64.toUInt64 &&& Int64.toUInt64 63).toNat = 8 * i ∧ (((Int32.ofInt (8 * (i : Int))).toInt64 &&& 63).toBitVec.smod 64).toNat = 8 * i := by decide
theorem byX (h : jH) (w : Int) {i : Nat} (hi : i < 8) : f_X_byteOf h w (i : Int) = some (byt w i) := by
  unfold f_X_byteOf
  rw [jmul_eq (by omega) (by omega), jand_any 8 (by decide) (by decide)]
  have e := uv_shr w (8 * (i : Int)) (8 * i) (by omega) (sh_tab i hi).1
  unfold byt
  rw [← e]
  have : u4 (jl2i (jlushr w (8 * (i : Int)))) % 2 ^ 8 = uv (jlushr w (8 * (i : Int))) % 256 := by
    unfold u4 uv jl2i w32; omega
  rw [this]
theorem bt_255 : ∀ i : Nat, i < 64 → bt 255 i = decide (i < 8) := by decide +kernel
theorem bt_nat (n i : Nat) (hn : n < 18446744073709551616) : bt ((n : Nat) : Int) i = n.testBit i := by
  rw [bt_uv]
  have : uv (n : Int) = n := by unfold uv; omega
  rw [this]
theorem byM (w : Int) {i : Nat} (hi : i < 8) : jland (jlshr w (jmul 8 (i : Int))) 255 = byt w i := by
  rw [jmul_eq (by omega) (by omega)]
  refine bt_ext (jl_ok _) (by have := byt_rng w i; exact ⟨by omega, by omega⟩) (fun j hj => ?_)
  rw [bt_and, bt_255 j hj]
  unfold byt
  rw [bt_nat _ _ (by omega), show (256 : Nat) = 2 ^ 8 by decide, Nat.testBit_mod_two_pow, Nat.testBit_div_two_pow, Bool.and_comm]
  by_cases c : j < 8
  · rw [decide_eq_true c, Bool.true_and, Bool.true_and, ← bt_uv]
    unfold jlshr bt
    rw [bv_of, Int64.toBitVec_shiftRight, BitVec.sshiftRight_eq', (sh_tab i hi).2, BitVec.getLsbD_sshiftRight, Int64.toBitVec_ofInt, if_pos (by omega), decide_eq_false (by omega), Nat.add_comm (8 * i) j]
    rfl
  · rw [decide_eq_false c, Bool.false_and, Bool.false_and]
theorem i2c {a : Int} (h0 : 0 ≤ a) (h1 : a < 256) : ji2c a = a := by
  have t : ∀ n : Nat, n < 256 → ji2c (n : Int) = (n : Int) := by decide +kernel
  have := t a.toNat (by omega)
  rw [show ((a.toNat : Nat) : Int) = a by omega] at this
  exact this
theorem add_ok (h : jH) {x L : Nat} {v : Int} (eL : h x 1 = (L : Int)) (hL : L < 100) (h0 : 0 ≤ v) (h1 : v < 256) : f_Tx_add x h v = some (jup (jup h (x + 1) L v) x 1 ((L + 1 : Nat) : Int)) := by
  unfold f_Tx_add
  rw [eL, if_neg (by omega), i2c h0 h1, jgd_pos (by omega), Int.toNat_natCast, jup_n _ _ _ (by omega), eL, jadd_eq (by omega) (by omega)]
  rfl
def TyOK (w c L : Int) : Prop := 1 ≤ c ∧ c ≤ 8 ∧ L + c ≤ 100 ∧ ∀ i, i < c.toNat → 32 ≤ byt w i ∧ byt w i ≤ 126
theorem ty_add (h : jH) (w : Int) {L c : Nat} (eL : h 18 1 = (L : Int)) (hc : c ≤ 8) (hc1 : 1 ≤ c) (hL : L + c ≤ 100) :
    ∃ h', f_X_type_lp71 w (fun l12 h13 => some (h13 18 1, h13)) 1000 ((c : Int) - 1) h = some (((L + c : Nat) : Int), h') ∧ (∀ a, a ≠ 18 → a ≠ 19 → h' a = h a) ∧ h' 18 1 = ((L + c : Nat) : Int) ∧ (∀ k, k < L → h' 19 k = h 19 k) ∧ ∀ j, j < c → h' 19 (L + j) = byt w (c - 1 - j) := by
  obtain ⟨g, ⟨g1, g2, g3, g4⟩, t⟩ := lp_all (fun n (j : Nat) (g : jH) => f_X_type_lp71 w (fun l12 h13 => some (h13 18 1, h13)) n ((c : Int) - 1 - (j : Int)) g) c (fun g => some (g 18 1, g))
    (fun j g => (∀ a, a ≠ 18 → a ≠ 19 → g a = h a) ∧ g 18 1 = ((L + j : Nat) : Int) ∧ (∀ k, k < L → g 19 k = h 19 k) ∧ ∀ i, i < j → g 19 (L + i) = byt w (c - 1 - i)) (by
      intro n g hg
      show f_X_type_lp71 _ _ (n + 1) _ g = _
      rw [f_X_type_lp71, if_pos (by omega)]) (by
      intro n j g hj hg
      show ∃ s', _ ∧ f_X_type_lp71 _ _ (n + 1) _ g = f_X_type_lp71 _ _ n ((c : Int) - 1 - ((j + 1 : Nat) : Int)) s'
      obtain ⟨q1, q2, q3, q4⟩ := hg
      have rb := byt_rng w (c - 1 - j)
      rw [f_X_type_lp71, if_neg (by omega), show (c : Int) - 1 - (j : Int) = ((c - 1 - j : Nat) : Int) by omega, byX g w (by omega), obs, add_ok g q2 (by omega) rb.1 rb.2, obs, jadd_eq (by omega) (by omega)]
      refine ⟨_, ⟨fun a h1 h2 => ?_, ?_, fun k hk => ?_, fun i hi => ?_⟩, by rw [show ((c - 1 - j : Nat) : Int) + -1 = (c : Int) - 1 - ((j + 1 : Nat) : Int) by omega]⟩
      · rw [jup_n _ _ _ h1, jup_n _ _ _ h2]; exact q1 a h1 h2
      · rw [jup_ss]; rfl
      · rw [jup_n _ _ _ (by decide), jup_sn _ _ _ (by omega)]; exact q3 k hk
      · rw [jup_n _ _ _ (by decide)]
        by_cases e : i = j
        · subst e; rw [jup_ss]
        · rw [jup_sn _ _ _ (by omega)]; exact q4 i (by omega)) h 1000 ⟨fun _ _ _ => rfl, eL, fun _ _ => rfl, fun i hi => absurd hi (Nat.not_lt_zero _)⟩ (by omega)
  have t' : f_X_type_lp71 w (fun l12 h13 => some (h13 18 1, h13)) 1000 ((c : Int) - 1) h = some (g 18 1, g) := by
    have : (c : Int) - 1 - ((0 : Nat) : Int) = (c : Int) - 1 := by omega
    rw [← this]; exact t
  exact ⟨g, by rw [t', g2], g1, g2, g3, g4⟩
theorem tyX (h : jH) (w c : Int) {L : Nat} (eL : h 18 1 = (L : Int)) (hL : L ≤ 100) : (TyOK w c (L : Int) → ∃ h', f_X_type h w c = some ((L : Int) + c, h') ∧ (∀ a, a ≠ 18 → a ≠ 19 → h' a = h a) ∧ h' 18 1 = (L : Int) + c ∧ (∀ k, k < L → h' 19 k = h 19 k) ∧ ∀ j, j < c.toNat → h' 19 (L + j) = byt w (c.toNat - 1 - j)) ∧ (¬ TyOK w c (L : Int) → f_X_type h w c = some (-1, h)) := by
  unfold f_X_type
  by_cases c1 : c < 1
  · rw [if_pos c1]; exact ⟨fun q => by have := q.1; omega, fun _ => rfl⟩
  rw [if_neg c1]
  by_cases c2 : 8 < c
  · rw [if_pos c2]; exact ⟨fun q => by have := q.2.1; omega, fun _ => rfl⟩
  rw [if_neg c2, eL, jadd_eq (by omega) (by omega)]
  by_cases c3 : (L : Int) + c ≤ 100
  · rw [if_pos c3]
    obtain ⟨m, rfl⟩ : ∃ m : Nat, c = (m : Int) := ⟨c.toNat, by omega⟩
    have run := lp_run (fun n (i : Nat) (_ : Unit) => f_X_type_lp30 h w (m : Int) (fun l6 => f_X_type_lp71 w (fun l12 h13 => some (h13 18 1, h13)) 1000 (jsub (m : Int) 1) h) n (i : Int)) m (fun _ => f_X_type_lp71 w (fun l12 h13 => some (h13 18 1, h13)) 1000 (jsub (m : Int) 1) h) (fun o => (¬ ∀ i, i < m → 32 ≤ byt w i ∧ byt w i ≤ 126) ∧ o = some (-1, h))
      (fun i _ => ∀ j, j < i → 32 ≤ byt w j ∧ byt w j ≤ 126) (by
        intro n s hs
        show f_X_type_lp30 _ _ _ _ (n + 1) _ = _
        rw [f_X_type_lp30, if_pos (by omega)]) (by
        intro n i s hi hs
        show (∃ s', _ ∧ f_X_type_lp30 _ _ _ _ (n + 1) _ = f_X_type_lp30 _ _ _ _ n ((i + 1 : Nat) : Int)) ∨ (_ ∧ f_X_type_lp30 _ _ _ _ (n + 1) _ = _)
        rw [f_X_type_lp30, if_neg (by omega), byX h w (by omega), obs]
        by_cases d1 : byt w i < 32
        · rw [if_pos d1]; exact Or.inr ⟨fun q => by have := q i hi; omega, rfl⟩
        · rw [if_neg d1]
          by_cases d2 : byt w i ≤ 126
          · rw [if_pos d2, jadd_eq (by omega) (by omega)]
            left
            refine ⟨(), fun j hj => ?_, rfl⟩
            by_cases e : j = i
            · subst e; exact ⟨by omega, d2⟩
            · exact hs j (by omega)
          · rw [if_neg d2]; exact Or.inr ⟨fun q => by have := q i hi; omega, rfl⟩) m 0 () 1000 (by omega) (fun j hj => absurd hj (Nat.not_lt_zero _)) (by omega)
    rcases run with ⟨_, r1, r2⟩ | ⟨r1, r2⟩
    · have r2' : f_X_type_lp30 h w (m : Int) (fun l6 => f_X_type_lp71 w (fun l12 h13 => some (h13 18 1, h13)) 1000 (jsub (m : Int) 1) h) 1000 0 = f_X_type_lp71 w (fun l12 h13 => some (h13 18 1, h13)) 1000 (jsub (m : Int) 1) h := r2
      rw [r2', jsub_eq (by omega) (by omega)]
      refine ⟨fun q => ?_, fun q => absurd ⟨by omega, by omega, c3, by rw [Int.toNat_natCast]; exact r1⟩ q⟩
      obtain ⟨h', a1, a2, a3, a4, a5⟩ := ty_add h w eL (show m ≤ 8 by omega) (by omega) (by omega)
      rw [Int.toNat_natCast]
      exact ⟨h', a1, a2, a3, a4, a5⟩
    · have r2' : f_X_type_lp30 h w (m : Int) (fun l6 => f_X_type_lp71 w (fun l12 h13 => some (h13 18 1, h13)) 1000 (jsub (m : Int) 1) h) 1000 0 = some (-1, h) := r2
      rw [r2']
      refine ⟨fun q => absurd ?_ r1, fun _ => rfl⟩
      have := q.2.2.2
      rw [Int.toNat_natCast] at this
      exact this
  · rw [if_neg c3]
    exact ⟨fun q => absurd q.2.2.1 c3, fun _ => rfl⟩
theorem tyM_add (h : jH) (w : Int) {L c : Nat} (eL : h 24 10 = (L : Int)) (hc : c ≤ 8) (hc1 : 1 ≤ c) (hL : L + c ≤ 100) :
    ∃ h', f_M_type_lp104 w (fun l22 h23 => some (h23 24 10, h23)) 1000 ((c : Int) - 1) h = some (((L + c : Nat) : Int), h') ∧ (∀ a, a ≠ 24 → a ≠ 31 → h' a = h a) ∧ (∀ k, k ≠ 10 → h' 24 k = h 24 k) ∧ h' 24 10 = ((L + c : Nat) : Int) ∧ (∀ k, k < L → h' 31 k = h 31 k) ∧ ∀ j, j < c → h' 31 (L + j) = byt w (c - 1 - j) := by
  obtain ⟨g, ⟨g1, g5, g2, g3, g4⟩, t⟩ := lp_all (fun n (j : Nat) (g : jH) => f_M_type_lp104 w (fun l22 h23 => some (h23 24 10, h23)) n ((c : Int) - 1 - (j : Int)) g) c (fun g => some (g 24 10, g))
    (fun j g => (∀ a, a ≠ 24 → a ≠ 31 → g a = h a) ∧ (∀ k, k ≠ 10 → g 24 k = h 24 k) ∧ g 24 10 = ((L + j : Nat) : Int) ∧ (∀ k, k < L → g 31 k = h 31 k) ∧ ∀ i, i < j → g 31 (L + i) = byt w (c - 1 - i)) (by
      intro n g hg
      show f_M_type_lp104 _ _ (n + 1) _ g = _
      rw [f_M_type_lp104, if_pos (by omega)]) (by
      intro n j g hj hg
      show ∃ s', _ ∧ f_M_type_lp104 _ _ (n + 1) _ g = f_M_type_lp104 _ _ n ((c : Int) - 1 - ((j + 1 : Nat) : Int)) s'
      obtain ⟨q1, q5, q2, q3, q4⟩ := hg
      have rb := byt_rng w (c - 1 - j)
      rw [f_M_type_lp104, if_neg (by omega), show (c : Int) - 1 - (j : Int) = ((c - 1 - j : Nat) : Int) by omega, byM w (by omega), q2, jgd_pos (by omega), Int.toNat_natCast, jup_n _ _ _ (by decide), q2, jadd_eq (by omega) (by omega), jadd_eq (by omega) (by omega), show jl2i (byt w (c - 1 - j)) = byt w (c - 1 - j) from w32_id (by omega) (by omega)]
      refine ⟨_, ⟨fun a h1 h2 => ?_, fun k hk => ?_, ?_, fun k hk => ?_, fun i hi => ?_⟩, by rw [show ((c - 1 - j : Nat) : Int) + -1 = (c : Int) - 1 - ((j + 1 : Nat) : Int) by omega]⟩
      · rw [jup_n _ _ _ h1, jup_n _ _ _ h2]; exact q1 a h1 h2
      · rw [jup_sn _ _ _ hk, jup_n _ _ _ (by decide)]; exact q5 k hk
      · rw [jup_ss]; rfl
      · rw [jup_n _ _ _ (by decide), jup_sn _ _ _ (by omega)]; exact q3 k hk
      · rw [jup_n _ _ _ (by decide)]
        by_cases e : i = j
        · subst e; rw [jup_ss]
        · rw [jup_sn _ _ _ (by omega)]; exact q4 i (by omega)) h 1000 ⟨fun _ _ _ => rfl, fun _ _ => rfl, eL, fun _ _ => rfl, fun i hi => absurd hi (Nat.not_lt_zero _)⟩ (by omega)
  have t' : f_M_type_lp104 w (fun l22 h23 => some (h23 24 10, h23)) 1000 ((c : Int) - 1) h = some (g 24 10, g) := by
    have : (c : Int) - 1 - ((0 : Nat) : Int) = (c : Int) - 1 := by omega
    rw [← this]; exact t
  exact ⟨g, by rw [t', g2], g1, g5, g2, g3, g4⟩
theorem jcmp_lt {a b : Int} : jcmp a b < 0 ↔ a < b := by
  unfold jcmp
  by_cases c : b < a
  · rw [if_pos c]; omega
  · rw [if_neg c]
    by_cases d : a = b
    · rw [if_pos d]; omega
    · rw [if_neg d]; omega
theorem jcmp_gt {a b : Int} : 0 < jcmp a b ↔ b < a := by
  unfold jcmp
  by_cases c : b < a
  · rw [if_pos c]; omega
  · rw [if_neg c]
    by_cases d : a = b
    · rw [if_pos d]; omega
    · rw [if_neg d]; omega
theorem tyM (h : jH) (w c : Int) {L : Nat} (eL : h 24 10 = (L : Int)) (hL : L ≤ 100) (hcr : ok32 c) : (TyOK w c (L : Int) → ∃ h', f_M_type h w c = some ((L : Int) + c, h') ∧ (∀ a, a ≠ 24 → a ≠ 31 → h' a = h a) ∧ (∀ k, k ≠ 0 → k ≠ 10 → h' 24 k = h 24 k) ∧ h' 24 10 = (L : Int) + c ∧ (∀ k, k < L → h' 31 k = h 31 k) ∧ ∀ j, j < c.toNat → h' 31 (L + j) = byt w (c.toNat - 1 - j)) ∧ (¬ TyOK w c (L : Int) → f_M_type h w c = some (-1, jup h 24 0 0)) := by
  have no : f_M_type_j31 (jup h 24 0 0) w c = some (-1, jup h 24 0 0) := by
    unfold f_M_type_j31 f_M_type_j32
    rw [show (1000 : Nat) = 999 + 1 from rfl, f_M_type_lp37, if_pos rfl]
    unfold f_M_type_j92
    rw [if_pos rfl]
  have e10 : jup h 24 0 0 24 10 = (L : Int) := by rw [jup_sn _ _ _ (by decide)]; exact eL
  unfold f_M_type
  by_cases c1 : c < 1
  · rw [if_pos c1]; exact ⟨fun q => by have := q.1; omega, fun _ => no⟩
  rw [if_neg c1]
  by_cases c2 : 8 < c
  · rw [if_pos c2]; exact ⟨fun q => by have := q.2.1; omega, fun _ => no⟩
  rw [if_neg c2, e10, jadd_eq (by omega) (by omega)]
  by_cases c3 : 100 < (L : Int) + c
  · rw [if_pos c3]; exact ⟨fun q => by have := q.2.2.1; omega, fun _ => no⟩
  rw [if_neg c3]
  obtain ⟨m, rfl⟩ : ∃ m : Nat, c = (m : Int) := ⟨c.toNat, by omega⟩
  unfold f_M_type_j32
  have run := lp_ex (fun n (i : Nat) (s : Int) => f_M_type_lp37 (jup h 24 0 0) w (m : Int) (fun l13 l14 => f_M_type_j92 (jup h 24 0 0) w (m : Int) l13) n s (i : Int)) m (fun s => f_M_type_j92 (jup h 24 0 0) w (m : Int) s) (fun o => ∃ s, o = f_M_type_j92 (jup h 24 0 0) w (m : Int) s ∧ (s = 0 ∨ s = 1) ∧ (s = 1 ↔ ∀ i, i < m → 32 ≤ byt w i ∧ byt w i ≤ 126))
    (fun i s => (s = 0 ∨ s = 1) ∧ (s = 1 ↔ ∀ j, j < i → 32 ≤ byt w j ∧ byt w j ≤ 126)) (by
      intro n s hs
      show f_M_type_lp37 _ _ _ _ (n + 1) s _ = _
      rw [f_M_type_lp37]
      by_cases c0 : s = 0
      · rw [if_pos c0]
      · rw [if_neg c0, if_pos (by omega)]) (by
      intro n i s hi hs
      show (∃ s', _ ∧ f_M_type_lp37 _ _ _ _ (n + 1) s _ = f_M_type_lp37 _ _ _ _ n s' ((i + 1 : Nat) : Int)) ∨ (∃ s', f_M_type_lp37 _ _ _ _ (n + 1) s _ = _ ∧ _)
      rw [f_M_type_lp37]
      by_cases c0 : s = 0
      · rw [if_pos c0]
        right
        exact ⟨s, rfl, Or.inl c0, fun q => by omega, fun q => hs.2.mpr (fun j hj => q j (by omega))⟩
      · rw [if_neg c0, if_neg (by omega), byM w (by omega), jadd_eq (by omega) (by omega)]
        left
        have s1 := hs.2.mp (by omega)
        refine ⟨_, ?_, rfl⟩
        by_cases d1 : byt w i < 32
        · rw [if_pos (jcmp_lt.mpr d1)]; exact ⟨Or.inl rfl, fun q => (by cases q), fun q => (by have := q i (by omega); omega)⟩
        · rw [if_neg (fun z => d1 (jcmp_lt.mp z))]
          by_cases d2 : 126 < byt w i
          · rw [if_pos (jcmp_gt.mpr d2)]; exact ⟨Or.inl rfl, fun q => (by cases q), fun q => (by have := q i (by omega); omega)⟩
          · rw [if_neg (fun z => d2 (jcmp_gt.mp z))]
            refine ⟨Or.inr rfl, fun _ j hj => ?_, fun _ => rfl⟩
            by_cases e : j = i
            · subst e; omega
            · exact s1 j (by omega)) (fun s hs => ⟨s, rfl, hs.1, hs.2⟩) 1 1000 ⟨Or.inr rfl, fun _ j hj => absurd hj (Nat.not_lt_zero _), fun _ => rfl⟩ (by omega)
  obtain ⟨s, r1, r2, r3⟩ := run
  have r1' : f_M_type_lp37 (jup h 24 0 0) w (m : Int) (fun l13 l14 => f_M_type_j92 (jup h 24 0 0) w (m : Int) l13) 1000 1 0 = f_M_type_j92 (jup h 24 0 0) w (m : Int) s := r1
  rw [r1']
  unfold f_M_type_j92
  by_cases d : s = 0
  · rw [if_pos d]
    refine ⟨fun q => ?_, fun _ => rfl⟩
    have := q.2.2.2
    rw [Int.toNat_natCast] at this
    have := r3.mpr this
    omega
  · rw [if_neg d, jsub_eq (by omega) (by omega)]
    refine ⟨fun q => ?_, fun q => absurd ⟨by omega, by omega, by omega, by rw [Int.toNat_natCast]; exact r3.mp (by omega)⟩ q⟩
    obtain ⟨h', a1, a2, a6, a3, a4, a5⟩ := tyM_add (jup h 24 0 0) w e10 (show m ≤ 8 by omega) (by omega) (by omega)
    rw [Int.toNat_natCast]
    refine ⟨h', a1, fun a h1 h2 => ?_, fun k h1 h2 => ?_, a3, fun k hk => ?_, a5⟩
    · rw [a2 a h1 h2, jup_n _ _ _ h1]
    · rw [a6 k h2, jup_sn _ _ _ h1]
    · rw [a4 k hk, jup_n _ _ _ (by decide)]
