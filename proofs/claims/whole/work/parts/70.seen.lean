/-! the reference counts how often a position came; dead positions; checks -/
theorem sq_lp (h : jH) {n k : Nat} (en : h 24 7 = (n : Int)) (hn : n ≤ 303) (hk : k ≤ 303) (c : Int) (G : Int → Option Int) (K : Int → Int → Option Int) (hK : ∀ a b, K a b = G a) :
    ∃ s, f_M_seenOf_lp76 h c (k : Int) K 1000 1 0 = G s ∧ (s = 0 ∨ s = 1) ∧ (s = 1 ↔ EqB (mb h k) (mb h n)) := by
  refine lp_ex (fun m (i : Nat) (s : Int) => f_M_seenOf_lp76 h c (k : Int) K m s (i : Int)) 64 G (fun o => ∃ s, o = G s ∧ (s = 0 ∨ s = 1) ∧ (s = 1 ↔ EqB (mb h k) (mb h n)))
    (fun i s => (s = 0 ∨ s = 1) ∧ (s = 1 ↔ ∀ y, y < i → mb h k y = mb h n y)) ?_ ?_ ?_ 1 1000 ⟨Or.inr rfl, fun _ y hy => absurd hy (Nat.not_lt_zero _), fun _ => rfl⟩ (by omega)
  · intro m s hs
    show f_M_seenOf_lp76 _ _ _ _ (m + 1) s _ = _
    rw [f_M_seenOf_lp76, if_pos (by omega), hK]
  · intro m i s hi hs
    show (∃ s', _ ∧ f_M_seenOf_lp76 _ _ _ _ (m + 1) s _ = f_M_seenOf_lp76 _ _ _ _ m s' ((i + 1 : Nat) : Int)) ∨ (∃ s', f_M_seenOf_lp76 _ _ _ _ (m + 1) s _ = G s' ∧ _)
    rw [f_M_seenOf_lp76, if_neg (by omega)]
    by_cases c0 : s = 0
    · right
      rw [if_pos c0, hK]
      refine ⟨s, rfl, Or.inl c0, ?_⟩
      constructor
      · intro q; omega
      · intro q; exact hs.2.mpr (fun y hy => q y (by omega))
    · left
      rw [if_neg c0, en, pc_ok h (by omega) hi, obs, pc_ok h (by omega) hi, obs, jadd_eq (by omega) (by omega)]
      have s1 := hs.2.mp (by omega)
      refine ⟨_, ?_, rfl⟩
      by_cases d : mb h k i = mb h n i
      · rw [if_pos d]
        refine ⟨Or.inr rfl, fun _ y hy => ?_, fun _ => rfl⟩
        by_cases e : y = i
        · subst e; exact d
        · exact s1 y (by omega)
      · rw [if_neg d]
        exact ⟨Or.inl rfl, fun q => (by cases q), fun q => absurd (q i (by omega)) d⟩
  · intro s hs
    exact ⟨s, rfl, hs.1, hs.2⟩
theorem se_ok (h : jH) {n : Nat} (en : h 24 7 = (n : Int)) (hn : n ≤ 300) : f_M_seenOf h = some ((sm (fun k => ind (sameP (mb h k) (mb h n) (h 26 k) (h 26 n) (h 27 k) (h 27 n) (h 30 k) (h 30 n))) (n + 1) : Nat) : Int) := by
  unfold f_M_seenOf
  generalize hSS : (fun k => sameP (mb h k) (mb h n) (h 26 k) (h 26 n) (h 27 k) (h 27 n) (h 30 k) (h 30 n)) = S
  have eS : ∀ k, sameP (mb h k) (mb h n) (h 26 k) (h 26 n) (h 27 k) (h 27 n) (h 30 k) (h 30 n) ↔ S k := fun k => by rw [← hSS]
  have eI : (fun k => ind (sameP (mb h k) (mb h n) (h 26 k) (h 26 n) (h 27 k) (h 27 n) (h 30 k) (h 30 n))) = fun k => ind (S k) := funext (fun k => ind_c (eS k))
  rw [eI]
  obtain ⟨s', h1, h2⟩ := lp_all (fun m (i : Nat) (s : Int) => f_M_seenOf_lp4 h (fun l19 l20 => some l19) m s (i : Int)) (n + 1) (fun s => some s)
    (fun i s => s = ((sm (fun k => ind (S k)) i : Nat) : Int) ∧ sm (fun k => ind (S k)) i ≤ i) (by
      intro m s hs
      show f_M_seenOf_lp4 _ _ (m + 1) s _ = _
      rw [f_M_seenOf_lp4, en, if_pos (by omega)]) (by
      intro m i s hi hs
      show ∃ s', _ ∧ f_M_seenOf_lp4 _ _ (m + 1) s _ = f_M_seenOf_lp4 _ _ m s' ((i + 1 : Nat) : Int)
      obtain ⟨s1, s2⟩ := hs
      have ls := ind_le (S i)
      have no : ¬ S i → ∃ s', (s' = ((sm (fun k => ind (S k)) (i + 1) : Nat) : Int) ∧ sm (fun k => ind (S k)) (i + 1) ≤ i + 1) ∧ f_M_seenOf_j71_4 (f_M_seenOf_lp4 h (fun l19 l20 => some l19) m) (fun l19 l20 => some l19) h s (i : Int) = f_M_seenOf_lp4 h (fun l19 l20 => some l19) m s' ((i + 1 : Nat) : Int) := by
        intro q
        refine ⟨s, ?_, ?_⟩
        · rw [sm_succ, ind_0 q]; exact ⟨s1, by omega⟩
        · unfold f_M_seenOf_j71_4 f_M_seenOf_j72_4
          rw [show (1000 : Nat) = 999 + 1 from rfl, f_M_seenOf_lp76, if_neg (by omega), if_pos rfl]
          unfold f_M_seenOf_j119_4
          rw [if_pos rfl, jadd_eq (a := (i : Int)) (by omega) (by omega)]
          rfl
      rw [f_M_seenOf_lp4, en, if_neg (by omega), jgd_pos (by omega), jgd_pos (by omega), Int.toNat_natCast, Int.toNat_natCast]
      by_cases c1 : h 26 i = h 26 n
      · rw [if_pos c1, jgd_pos (by omega), jgd_pos (by omega)]
        by_cases c2 : h 27 i = h 27 n
        · rw [if_pos c2, jgd_pos (by omega), jgd_pos (by omega)]
          by_cases c3 : h 30 i = h 30 n
          · rw [if_pos (jcmp_eq.mpr c3)]
            unfold f_M_seenOf_j72_4
            obtain ⟨z, z1, z2, z3⟩ := sq_lp h (k := i) en (by omega) (by omega) s (fun l14 => f_M_seenOf_j119_4 (f_M_seenOf_lp4 h (fun l19 l20 => some l19) m) (fun l19 l20 => some l19) h s (i : Int) l14) (fun l14 l15 => f_M_seenOf_j119_4 (f_M_seenOf_lp4 h (fun l19 l20 => some l19) m) (fun l19 l20 => some l19) h s (i : Int) l14) (fun _ _ => rfl)
            rw [z1]
            unfold f_M_seenOf_j119_4
            rw [jadd_eq (a := (i : Int)) (by omega) (by omega), jadd_eq (by omega) (by omega)]
            refine ⟨_, ?_, rfl⟩
            rw [sm_succ]
            by_cases c : z = 0
            · rw [if_pos c, ind_0 (fun q => by have := z3.mpr ((eS i).mpr q).1; omega)]; exact ⟨s1, by omega⟩
            · rw [if_neg c, ind_1 ((eS i).mp ⟨z3.mp (by omega), c1, c2, c3⟩)]; exact ⟨by omega, by omega⟩
          · rw [if_neg (fun z => c3 (jcmp_eq.mp z))]
            exact no (fun q => c3 ((eS i).mpr q).2.2.2)
        · rw [if_neg c2]
          exact no (fun q => c2 ((eS i).mpr q).2.2.1)
      · rw [if_neg c1]
        exact no (fun q => c1 ((eS i).mpr q).2.1)) 0 1000 ⟨rfl, Nat.le_refl _⟩ (by omega)
  rw [h1.1] at h2
  exact h2
def wt (p : Int) : Nat := if kd p = 2 ∨ kd p = 3 then 1 else if kd p = 1 ∨ kd p = 4 ∨ kd p = 5 then 2 else 0
theorem sm_ge (f : Nat → Nat) {i : Nat} : ∀ n, i < n → f i ≤ sm f n := by
  intro n
  induction n with
  | zero => intro h; omega
  | succ n ih =>
    intro h
    rw [sm_succ]
    by_cases c : i = n
    · subst c; omega
    · have := ih (by omega); omega
theorem sm_bd (f : Nat → Nat) (c : Nat) (h : ∀ i, f i ≤ c) : ∀ n, sm f n ≤ c * n := by
  intro n
  induction n with
  | zero => exact Nat.le_refl _
  | succ n ih => rw [sm_succ, Nat.mul_succ]; have := h n; omega
theorem wt_le (p : Int) : wt p ≤ 2 := by unfold wt; split <;> (try split) <;> omega
theorem dd_ok (h : jH) {n : Nat} (en : h 24 7 = (n : Int)) (hn : n ≤ 303) (hB : BR (mb h n)) : YN (f_M_isDead h) (sm (fun y => wt (mb h n y)) 64 < 2) := by
  unfold f_M_isDead
  obtain ⟨s', h1, h2⟩ := lp_all (fun m (i : Nat) (s : Int) => f_M_isDead_lp4 h (fun l9 l10 => some (if 2 ≤ l9 then 0 else 1)) m s (i : Int)) 64 (fun s => some (if 2 ≤ s then 0 else 1))
    (fun i s => s = ((sm (fun y => wt (mb h n y)) i : Nat) : Int)) (by
      intro m s hs
      show f_M_isDead_lp4 _ _ (m + 1) s _ = _
      rw [f_M_isDead_lp4, if_pos (by omega)]) (by
      intro m i s hi hs
      show ∃ s', _ ∧ f_M_isDead_lp4 _ _ (m + 1) s _ = f_M_isDead_lp4 _ _ m s' ((i + 1 : Nat) : Int)
      have sb := sm_bd (fun y => wt (mb h n y)) 2 (fun y => wt_le _) i
      rw [f_M_isDead_lp4, if_neg (by omega), en, pc_ok h (by omega) hi, obs, show f_M_kindOf h (mb h n i) = f_X_kindOf h (mb h n i) from rfl, kd_ok h (hB i hi).1 (hB i hi).2, obs]
      unfold f_M_isDead_j33_4 f_M_isDead_j54_4
      rw [jadd_eq (a := (i : Int)) (by omega) (by omega), jadd_eq (a := s) (b := 1) (by omega) (by omega), jadd_eq (a := s) (b := 2) (by omega) (by omega)]
      have fin : ∀ d : Nat, wt (mb h n i) = d → ∃ s', s' = ((sm (fun y => wt (mb h n y)) (i + 1) : Nat) : Int) ∧ f_M_isDead_lp4 h (fun l9 l10 => some (if 2 ≤ l9 then 0 else 1)) m (s + (d : Int)) ((i : Int) + 1) = f_M_isDead_lp4 h (fun l9 l10 => some (if 2 ≤ l9 then 0 else 1)) m s' ((i + 1 : Nat) : Int) := by
        intro d hd
        refine ⟨s + (d : Int), ?_, rfl⟩
        rw [sm_succ, hd, hs]; omega
      by_cases c2 : kd (mb h n i) = 2
      · rw [if_pos c2]; exact fin 1 (by unfold wt; rw [if_pos (Or.inl c2)])
      · rw [if_neg c2]
        by_cases c3 : kd (mb h n i) = 3
        · rw [if_pos c3]; exact fin 1 (by unfold wt; rw [if_pos (Or.inr c3)])
        · rw [if_neg c3]
          by_cases c1 : kd (mb h n i) = 1
          · rw [if_pos c1]; exact fin 2 (by unfold wt; rw [if_neg (by omega), if_pos (Or.inl c1)])
          · rw [if_neg c1]
            by_cases c4 : kd (mb h n i) = 4
            · rw [if_pos c4]; exact fin 2 (by unfold wt; rw [if_neg (by omega), if_pos (Or.inr (Or.inl c4))])
            · rw [if_neg c4]
              by_cases c5 : kd (mb h n i) = 5
              · rw [if_pos c5]; exact fin 2 (by unfold wt; rw [if_neg (by omega), if_pos (Or.inr (Or.inr c5))])
              · rw [if_neg c5]
                have := fin 0 (by unfold wt; rw [if_neg (by omega), if_neg (by omega)])
                rw [show s + ((0 : Nat) : Int) = s by omega] at this
                exact this) 0 1000 rfl (by omega)
  have h3 : f_M_isDead_lp4 h (fun l9 l10 => some (if 2 ≤ l9 then 0 else 1)) 1000 0 0 = some (if 2 ≤ s' then 0 else 1) := h2
  rw [h3]
  by_cases c : 2 ≤ s'
  · rw [if_pos c]; exact yn0 (by omega)
  · rw [if_neg c]; exact yn1 (by omega)
theorem bare_ok (h : jH) (hB : BR (h 3)) : YN (f_Bd_isBare h) (sm (fun y => wt (h 3 y)) 64 < 2) := by
  unfold f_Bd_isBare
  refine lp_ex (fun m (i : Nat) (s : Int) => f_Bd_isBare_lp4 h (fun l6 l7 => some (if 1 < l6 then 0 else 1)) m s (i : Int)) 64 (fun s => some (if 1 < s then 0 else 1)) (fun o => YN o (sm (fun y => wt (h 3 y)) 64 < 2))
    (fun i s => s = ((sm (fun y => wt (h 3 y)) i : Nat) : Int)) ?_ ?_ ?_ 0 1000 rfl (by omega)
  · intro m s hs
    show f_Bd_isBare_lp4 _ _ (m + 1) s _ = _
    rw [f_Bd_isBare_lp4, if_pos (by omega)]
  · intro m i s hi hs
    show (∃ s', _ ∧ f_Bd_isBare_lp4 _ _ (m + 1) s _ = f_Bd_isBare_lp4 _ _ m s' ((i + 1 : Nat) : Int)) ∨ YN (f_Bd_isBare_lp4 _ _ (m + 1) s _) _
    have sb := sm_bd (fun y => wt (h 3 y)) 2 (fun y => wt_le _) i
    rw [f_Bd_isBare_lp4, if_neg (by omega), jgd_pos (by omega), Int.toNat_natCast, kd_ok h (hB i hi).1 (hB i hi).2, obs]
    unfold f_Bd_isBare_j48_4
    rw [jadd_eq (a := (i : Int)) (by omega) (by omega), jadd_eq (a := s) (b := 1) (by omega) (by omega), jadd_eq (a := s) (b := 0) (by omega) (by omega)]
    have big : wt (h 3 i) = 2 → ¬ sm (fun y => wt (h 3 y)) 64 < 2 := by
      intro e q
      have : wt (h 3 i) ≤ sm (fun y => wt (h 3 y)) 64 := sm_ge (fun y => wt (h 3 y)) 64 hi
      omega
    by_cases c1 : kd (h 3 i) = 1
    · rw [if_pos c1]; exact Or.inr (yn0 (big (by unfold wt; rw [if_neg (by omega), if_pos (Or.inl c1)])))
    · rw [if_neg c1]
      by_cases c4 : kd (h 3 i) = 4
      · rw [if_pos c4]; exact Or.inr (yn0 (big (by unfold wt; rw [if_neg (by omega), if_pos (Or.inr (Or.inl c4))])))
      · rw [if_neg c4]
        by_cases c5 : kd (h 3 i) = 5
        · rw [if_pos c5]; exact Or.inr (yn0 (big (by unfold wt; rw [if_neg (by omega), if_pos (Or.inr (Or.inr c5))])))
        · rw [if_neg c5]
          left
          by_cases c2 : kd (h 3 i) = 2
          · rw [if_pos c2]
            refine ⟨s + 1, ?_, rfl⟩
            rw [sm_succ, hs, show wt (h 3 i) = 1 by unfold wt; rw [if_pos (Or.inl c2)]]; omega
          · rw [if_neg c2]
            by_cases c3 : kd (h 3 i) = 3
            · rw [if_pos c3]
              refine ⟨s + 1, ?_, rfl⟩
              rw [sm_succ, hs, show wt (h 3 i) = 1 by unfold wt; rw [if_pos (Or.inr c3)]]; omega
            · rw [if_neg c3]
              refine ⟨s + 0, ?_, rfl⟩
              rw [sm_succ, hs, show wt (h 3 i) = 0 by unfold wt; rw [if_neg (by omega), if_neg (by omega)]]; omega
  · intro s hs
    by_cases c : 1 < s
    · rw [if_pos c]; exact yn0 (by omega)
    · rw [if_neg c]; exact yn1 (by omega)
theorem ck_ok (h : jH) {p k : Nat} (hp : p < 304) (hB : BR (mb h p)) (hS : h 26 p = 0 ∨ h 26 p = 1) (hk : uk (mb h p) (h 26 p) k) : YN (f_M_isChecked h (p : Int)) (atd (mb h p) k (1 - h 26 p)) := by
  unfold f_M_isChecked
  rw [jgd_pos (by omega), Int.toNat_natCast, ko_ok h hp hk, obs, jgd_pos (by omega), (side_sub hS).1]
  exact yn_gd (ia_ok h hp hk.1 hB (side_sub hS).2)
