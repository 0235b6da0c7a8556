/-! the board's geometry: rays, leaps, what stands between -/
def FS (d : Nat) : Int := (jxc.getD 1 []).getD d 0
def RS (d : Nat) : Int := (jxc.getD 2 []).getD d 0
def KF (d : Nat) : Int := (jxc.getD 3 []).getD d 0
def KR (d : Nat) : Int := (jxc.getD 4 []).getD d 0
theorem FS_b : ∀ d, d < 8 → -1 ≤ FS d ∧ FS d ≤ 1 ∧ -1 ≤ RS d ∧ RS d ≤ 1 ∧ -2 ≤ KF d ∧ KF d ≤ 2 ∧ -2 ≤ KR d ∧ KR d ≤ 2 := by decide
theorem jxc_len : (((jxc.getD 1 []).length : Nat) : Int) = 8 ∧ (((jxc.getD 2 []).length : Nat) : Int) = 8 ∧ (((jxc.getD 3 []).length : Nat) : Int) = 8 ∧ (((jxc.getD 4 []).length : Nat) : Int) = 8 := by decide
/-- so many files and ranks away -/
def shf (s f r : Int) : Int := if s % 8 + f < 0 then -1 else if 7 < s % 8 + f then -1 else if s / 8 + r < 0 then -1 else if s / 8 + r ≤ 7 then 8 * (s / 8 + r) + (s % 8 + f) else -1
theorem shf_ok (h : jH) {s f r : Int} (h0 : 0 ≤ s) (h1 : s < 64) (f0 : -8 ≤ f) (f1 : f ≤ 8) (r0 : -8 ≤ r) (r1 : r ≤ 8) : f_X_shifted h s f r = some (shf s f r) := by
  unfold f_X_shifted shf
  rw [jand7 h0 (by omega), jshr3 h0 (by omega), jadd_eq (by omega) (by omega), jadd_eq (a := s / 8) (by omega) (by omega), jmul_eq (by omega) (by omega), jadd_eq (by omega) (by omega)]
theorem shf_rng (s f r : Int) : shf s f r = -1 ∨ (0 ≤ shf s f r ∧ shf s f r < 64) := by
  unfold shf
  by_cases h1 : s % 8 + f < 0
  · rw [if_pos h1]; exact Or.inl rfl
  · rw [if_neg h1]
    by_cases h2 : 7 < s % 8 + f
    · rw [if_pos h2]; exact Or.inl rfl
    · rw [if_neg h2]
      by_cases h3 : s / 8 + r < 0
      · rw [if_pos h3]; exact Or.inl rfl
      · rw [if_neg h3]
        by_cases h4 : s / 8 + r ≤ 7
        · rw [if_pos h4]; right; omega
        · rw [if_neg h4]; exact Or.inl rfl
/-- the squares from s on, in a direction -/
def rayF : Nat → Int → Nat → List Nat
  | 0, _, _ => []
  | n + 1, s, d => if s = -1 then [] else s.toNat :: rayF n (shf s (FS d) (RS d)) d
def ray (t d : Nat) : List Nat := rayF 7 (shf (t : Int) (FS d) (RS d)) d
/-- the first man of a list of squares -/
def fst1 (b : Nat → Int) : List Nat → Int
  | [] => -1
  | s :: l => if b s = 0 then fst1 b l else (s : Int)
theorem fa_lp (h : jH) (r d : Nat) (hd : d < 8) : ∀ (m n : Nat) (s : Int), (s = -1 ∨ (0 ≤ s ∧ s < 64)) → m ≤ 7 → m < n → f_Bd_firstAlong_lp18 r h (d : Int) (fun _ _ => some (-1)) n s (8 - (m : Int)) = some (fst1 (h (r + 1)) (rayF m s d)) := by
  intro m
  obtain ⟨b1, b2, b3, b4, -⟩ := FS_b d hd
  obtain ⟨e1, e2, -⟩ := jxc_len
  induction m with
  | zero =>
    intro n s hs hm hn
    cases n with
    | zero => omega
    | succ n =>
      rw [f_Bd_firstAlong_lp18, if_pos (by omega)]
      rfl
  | succ m ih =>
    intro n s hs hm hn
    cases n with
    | zero => omega
    | succ n =>
      rw [f_Bd_firstAlong_lp18, if_neg (by omega)]
      by_cases hs1 : s = -1
      · rw [if_pos hs1]
        unfold rayF
        rw [if_pos hs1]
        rfl
      · rw [if_neg hs1]
        have hs2 : 0 ≤ s ∧ s < 64 := by omega
        rw [jgd_pos hs2]
        unfold rayF
        rw [if_neg hs1]
        unfold fst1
        by_cases hb : h (r + 1) s.toNat = 0
        · rw [if_pos hb, if_pos hb, e1, e2, jgd_pos (by omega), jgd_pos (by omega), Int.toNat_natCast, shf_ok h hs2.1 hs2.2 (by show -8 ≤ FS d; omega) (by show FS d ≤ 8; omega) (by show -8 ≤ RS d; omega) (by show RS d ≤ 8; omega)]
          show f_Bd_firstAlong_lp18 r h (d : Int) (fun _ _ => some (-1)) n (shf s (FS d) (RS d)) (jadd (8 - ((m + 1 : Nat) : Int)) 1) = _
          rw [jadd_eq (by omega) (by omega), show (8 - ((m + 1 : Nat) : Int) + 1) = 8 - (m : Int) by omega]
          exact ih n _ (shf_rng _ _ _) (by omega) (by omega)
        · rw [if_neg hb, if_neg hb, show ((s.toNat : Nat) : Int) = s by omega]
theorem fa_ok (h : jH) (r : Nat) {t : Nat} (ht : t < 64) {d : Nat} (hd : d < 8) : f_Bd_firstAlong r h (t : Int) (d : Int) = some (fst1 (h (r + 1)) (ray t d)) := by
  obtain ⟨b1, b2, b3, b4, -⟩ := FS_b d hd
  obtain ⟨e1, e2, -⟩ := jxc_len
  unfold f_Bd_firstAlong
  rw [e1, e2, jgd_pos (by omega), jgd_pos (by omega), Int.toNat_natCast, shf_ok h (by omega) (by omega) (by show -8 ≤ FS d; omega) (by show FS d ≤ 8; omega) (by show -8 ≤ RS d; omega) (by show RS d ≤ 8; omega)]
  show f_Bd_firstAlong_lp18 r h (d : Int) (fun _ _ => some (-1)) 1000 (shf (t : Int) (FS d) (RS d)) 1 = _
  have h2 := fa_lp h r d hd 7 1000 (shf (t : Int) (FS d) (RS d)) (shf_rng _ _ _) (by omega) (by omega)
  rw [show (8 - ((7 : Nat) : Int)) = 1 by decide] at h2
  exact h2
/-- kinds and sides -/
def kd (p : Int) : Int := if p ≤ 6 then p else p - 6
def sd (p : Int) : Int := if p = 0 then -1 else if p ≤ 6 then 0 else 1
theorem kd_ok (h : jH) {p : Int} (h0 : 0 ≤ p) (h1 : p ≤ 12) : f_X_kindOf h p = some (kd p) := by
  unfold f_X_kindOf kd
  rw [jsub_eq (by omega) (by omega)]
theorem kdM_ok (h : jH) {p : Int} (h0 : 0 ≤ p) (h1 : p ≤ 12) : f_M_kindOf h p = some (kd p) := by
  unfold f_M_kindOf kd
  rw [jsub_eq (by omega) (by omega)]
theorem sd_ok (h : jH) (p : Int) : f_X_sideOf h p = some (sd p) := rfl
/-- how far a kind goes in a direction -/
def rch (k : Int) (d : Nat) : Int := if k = 6 then 1 else if k = 5 then 7 else if k = 4 ∧ d % 2 = 0 then 7 else if k = 3 ∧ d % 2 = 1 then 7 else 0
theorem rch_ok (h : jH) (k : Int) {d : Nat} (hd : d < 8) : f_X_reachOf h k (d : Int) = some (rch k d) := by
  unfold f_X_reachOf f_X_reachOf_j11 f_X_reachOf_j34 rch
  rw [jand1 (by omega) (by omega)]
  rcases Nat.mod_two_eq_zero_or_one d with e | e
  · have e2 : (d : Int) % 2 = 0 := by omega
    simp only [e, e2, if_true, and_true, and_false, if_false]
    by_cases h6 : k = 6
    · simp [h6]
    · by_cases h5 : k = 5
      · simp [h6, h5]
      · by_cases h4 : k = 4
        · simp [h4]
        · by_cases h3 : k = 3
          · simp [h3]
          · simp [h6, h5, h4, h3]
  · have e2 : ¬ ((d : Int) % 2 = 0) := by omega
    simp only [e, e2, if_false, and_true, and_false]
    by_cases h6 : k = 6
    · simp [h6]
    · by_cases h5 : k = 5
      · simp [h6, h5]
      · by_cases h4 : k = 4
        · simp [h4]
        · by_cases h3 : k = 3
          · simp [h3]
          · simp [h6, h5, h4, h3]
def iab (x : Int) : Int := if 0 ≤ x then x else -x
/-- whether the man p on s, met first from t in direction d, attacks t -/
def agn (p : Int) (s t d : Nat) : Prop := if kd p = 1 then iab ((s : Int) % 8 - (t : Int) % 8) = 1 ∧ (t : Int) / 8 - (s : Int) / 8 = (if p ≤ 6 then 1 else -1) else iab ((s : Int) % 8 - (t : Int) % 8) ≤ rch (kd p) d ∧ iab ((t : Int) / 8 - (s : Int) / 8) ≤ rch (kd p) d
theorem abs_e {a : Int} (h0 : -1000 < a) (h1 : a < 1000) : (if 0 ≤ a then a else jsub 0 a) = iab a := by
  unfold iab
  rw [jsub_eq (by omega) (by omega)]
  by_cases h : 0 ≤ a
  · rw [if_pos h, if_pos h]
  · rw [if_neg h, if_neg h]; omega
theorem iab_rng (a : Int) : 0 ≤ iab a := by unfold iab; split <;> omega
theorem fw_ok (h : jH) (p : Int) : f_X_forwardOf h p = some (if p = 0 then 1 else -1) := rfl
theorem agn_ok (h : jH) (r : Nat) {s t d : Nat} (hs : s < 64) (ht : t < 64) (hd : d < 8) (h0 : 1 ≤ h (r + 1) s) (h1 : h (r + 1) s ≤ 12) : ∃ v, f_Bd_attacksAgainst r h (s : Int) (t : Int) (d : Int) = some v ∧ (v = 0 ∨ v = 1) ∧ (v = 1 ↔ agn (h (r + 1) s) s t d) := by
  unfold f_Bd_attacksAgainst agn
  rw [jgd_pos (by omega), Int.toNat_natCast, kd_ok h (by omega) h1]
  simp only [Option.bind_some]
  rw [jand7 (by omega) (by omega), jand7 (by omega) (by omega), jshr3 (by omega) (by omega), jshr3 (by omega) (by omega), jsub_eq (a := (s : Int) % 8) (by omega) (by omega), jsub_eq (a := (t : Int) / 8) (by omega) (by omega), abs_e (by omega) (by omega), abs_e (by omega) (by omega)]
  by_cases hk : kd (h (r + 1) s) = 1
  · rw [if_pos hk, if_pos hk]
    by_cases hf : iab ((s : Int) % 8 - (t : Int) % 8) = 1
    · rw [if_pos hf, jgd_pos (by omega), sd_ok]
      simp only [Option.bind_some]
      rw [fw_ok]
      simp only [Option.bind_some]
      have e : (if sd (h (r + 1) s) = 0 then (1 : Int) else -1) = (if h (r + 1) s ≤ 6 then 1 else -1) := by
        have h00 : ¬ h (r + 1) s = 0 := by omega
        unfold sd
        rw [if_neg h00]
        by_cases h6 : h (r + 1) s ≤ 6
        · rw [if_pos h6, if_pos h6]; rfl
        · rw [if_neg h6, if_neg h6]; rfl
      rw [e]
      by_cases hc : (t : Int) / 8 - (s : Int) / 8 = (if h (r + 1) s ≤ 6 then 1 else -1)
      · exact ⟨1, by rw [if_pos hc], Or.inr rfl, fun _ => ⟨hf, hc⟩, fun _ => rfl⟩
      · exact ⟨0, by rw [if_neg hc], Or.inl rfl, fun z => (by cases z), fun z => absurd z.2 hc⟩
    · exact ⟨0, by rw [if_neg hf], Or.inl rfl, fun z => (by cases z), fun z => absurd z.1 hf⟩
  · rw [if_neg hk, if_neg hk, rch_ok h _ hd]
    simp only [Option.bind_some]
    generalize iab ((s : Int) % 8 - (t : Int) % 8) = a
    generalize iab ((t : Int) / 8 - (s : Int) / 8) = c
    generalize rch (kd (h (r + 1) s)) d = q
    by_cases hac : a < c
    · rw [if_pos hac]
      by_cases hq : q < c
      · exact ⟨0, by rw [if_pos hq], Or.inl rfl, fun z => (by cases z), fun z => (by omega)⟩
      · exact ⟨1, by rw [if_neg hq], Or.inr rfl, fun _ => ⟨by omega, by omega⟩, fun _ => rfl⟩
    · rw [if_neg hac]
      by_cases hq : q < a
      · exact ⟨0, by rw [if_pos hq], Or.inl rfl, fun z => (by cases z), fun z => (by omega)⟩
      · exact ⟨1, by rw [if_neg hq], Or.inr rfl, fun _ => ⟨by omega, by omega⟩, fun _ => rfl⟩
