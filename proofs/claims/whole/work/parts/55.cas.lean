/-! castling in the class -/
def csq (side : Int) (w i : Nat) : Nat := if w = 0 then kh side + i else kh side - i
def cin (side : Int) (w x : Nat) : Prop := if w = 0 then kh side < x ∧ x < kh side + 3 else kh side < x + 4 ∧ x < kh side
def cx (b : Nat → Int) (side rights : Int) (w : Nat) : Prop := rbit rights (2 * side.toNat + w) ∧ (∀ x, cin side w x → b x = 0) ∧ ∀ i, i < 3 → ¬ atd b (csq side w i) (1 - side)
theorem mc_row (h : jH) (kg rk : Nat) (hk : kg < 64) (hr : rk < 64) (k : Int → Option Int) : ∀ (m n lo : Nat), lo + m = (if kg < rk then rk else kg) → m < n →
    ((∀ x, lo ≤ x → x < (if kg < rk then rk else kg) → h 3 x = 0) → f_Bd_mayCastle_lp44 h (kg : Int) (rk : Int) k n (lo : Int) = k (((if kg < rk then rk else kg : Nat) : Nat) : Int)) ∧ (¬ (∀ x, lo ≤ x → x < (if kg < rk then rk else kg) → h 3 x = 0) → f_Bd_mayCastle_lp44 h (kg : Int) (rk : Int) k n (lo : Int) = some 0) := by
  have hm : (if (kg : Int) < (rk : Int) then (rk : Int) else (kg : Int)) = (((if kg < rk then rk else kg : Nat) : Nat) : Int) := by split <;> split <;> omega
  have hm64 : (if kg < rk then rk else kg : Nat) < 64 := by split <;> omega
  generalize (if kg < rk then rk else kg : Nat) = M at hm hm64 ⊢
  intro m
  induction m with
  | zero =>
    intro n lo hlo hn
    obtain ⟨n', rfl⟩ : ∃ n', n = n' + 1 := ⟨n - 1, by omega⟩
    rw [f_Bd_mayCastle_lp44, hm, if_pos (by omega)]
    refine ⟨fun _ => by rw [show lo = M by omega], fun q => absurd (fun x h1 h2 => by omega) q⟩
  | succ m ih =>
    intro n lo hlo hn
    obtain ⟨n', rfl⟩ : ∃ n', n = n' + 1 := ⟨n - 1, by omega⟩
    rw [f_Bd_mayCastle_lp44, hm, if_neg (by omega), jgd_pos (by omega), Int.toNat_natCast, jadd_eq (by omega) (by omega), show (lo : Int) + 1 = ((lo + 1 : Nat) : Int) by omega]
    obtain ⟨i1, i2⟩ := ih n' (lo + 1) (by omega) (by omega)
    by_cases c : h 3 lo = 0
    · rw [if_pos c]
      refine ⟨fun q => i1 (fun x h1 h2 => q x (by omega) h2), fun q => i2 (fun z => q (fun x h1 h2 => ?_))⟩
      by_cases e : x = lo
      · rw [e]; exact c
      · exact z x (by omega) h2
    · rw [if_neg c]
      exact ⟨fun q => absurd (q lo (by omega) (by omega)) c, fun _ => rfl⟩
theorem mc_att (h : jH) (hB : BR (h 3)) (hS : h 2 1 = 0 ∨ h 2 1 = 1) (w : Nat) (hw : w < 2) : YN (f_Bd_mayCastle_lp75 h (kh (h 2 1) : Int) (rh (h 2 1) (w : Int) : Int) (fun l15 => some 1) 1000 0) (∀ i, i < 3 → ¬ atd (h 3) (csq (h 2 1) w i) (1 - h 2 1)) := by
  have hk : kh (h 2 1) = 4 ∨ kh (h 2 1) = 60 := by unfold kh; split <;> omega
  refine lp_ex (fun n (i : Nat) (_ : Unit) => f_Bd_mayCastle_lp75 h (kh (h 2 1) : Int) (rh (h 2 1) (w : Int) : Int) (fun l15 => some 1) n (i : Int)) 3 (fun _ => some 1) (fun o => YN o (∀ i, i < 3 → ¬ atd (h 3) (csq (h 2 1) w i) (1 - h 2 1))) (fun i _ => ∀ j, j < i → ¬ atd (h 3) (csq (h 2 1) w j) (1 - h 2 1)) ?_ ?_ ?_ () 1000 (fun j hj => (by omega)) (by omega)
  · intro n _ _
    show f_Bd_mayCastle_lp75 _ _ _ _ (n + 1) _ = _
    rw [f_Bd_mayCastle_lp75, if_pos (by omega)]
  · intro n i _ hi hI
    show (∃ s' : Unit, _ ∧ f_Bd_mayCastle_lp75 _ _ _ _ (n + 1) _ = f_Bd_mayCastle_lp75 _ _ _ _ n ((i + 1 : Nat) : Int)) ∨ YN (f_Bd_mayCastle_lp75 _ _ _ _ (n + 1) _) _
    rw [f_Bd_mayCastle_lp75, if_neg (by omega)]
    unfold f_Bd_mayCastle_j97_75 f_X_otherSide
    have es : (if (rh (h 2 1) (w : Int) : Int) ≤ (kh (h 2 1) : Int) then jsub (kh (h 2 1) : Int) (i : Int) else jadd (kh (h 2 1) : Int) (i : Int)) = ((csq (h 2 1) w i : Nat) : Int) := by
      rw [jsub_eq (by omega) (by omega), jadd_eq (by omega) (by omega)]
      unfold csq rh kh at *
      have hw2 : w = 0 ∨ w = 1 := by omega
      rcases hS with e | e <;> rw [e] at hk ⊢ <;> rcases hw2 with e2 | e2 <;> subst e2 <;> simp <;> omega
    have hc : csq (h 2 1) w i < 64 := by unfold csq; split <;> omega
    rw [es, (side_sub hS).1]
    simp only [obs]
    obtain ⟨v, v1, v2⟩ := ao_zero h 2 hB hc (side_sub hS).2
    rw [v1]
    simp only [obs]
    rw [jadd_eq (by omega) (by omega)]
    by_cases c : jcmp v 0 = 0
    · rw [if_pos c]
      exact Or.inl ⟨(), all_lt_succ.mpr ⟨hI, v2.mp c⟩, rfl⟩
    · rw [if_neg c]
      exact Or.inr (yn0 (fun q => c (v2.mpr (q i hi))))
  · intro _ hI
    exact yn1 hI
theorem mc_ok (h : jH) (hB : BR (h 3)) (hS : h 2 1 = 0 ∨ h 2 1 = 1) (hr0 : 0 ≤ h 2 2) (hr1 : h 2 2 ≤ 15) (w : Nat) (hw : w < 2) : YN (f_Bd_mayCastle h (w : Int)) (cx (h 3) (h 2 1) (h 2 2) w) := by
  unfold f_Bd_mayCastle
  obtain ⟨sn, hsn⟩ : ∃ sn : Nat, h 2 1 = (sn : Int) := ⟨(h 2 1).toNat, by omega⟩
  obtain ⟨v, v1, v2⟩ := rx_ok h hr0 hr1 (o := sn) (w := w) (by omega) hw
  rw [← hsn] at v1
  rw [v1]
  simp only [obs]
  have e0 : 2 * (h 2 1).toNat + w = 2 * sn + w := by omega
  by_cases c : jand (h 2 2) v = 0
  · rw [if_pos c]; exact yn0 (fun q => (v2.mp c) (by rw [← e0]; exact q.1))
  · rw [if_neg c, kh_ok h hS, rh_ok h hS (by omega)]
    simp only [obs]
    have hb : rbit (h 2 2) (2 * (h 2 1).toNat + w) := by rw [e0]; exact Classical.byContradiction (fun q => c (v2.mpr q))
    have ha := mc_att h hB hS w hw
    have hkr : kh (h 2 1) < 64 := by unfold kh; split <;> omega
    have hrr : rh (h 2 1) (w : Int) < 64 := by unfold rh; split <;> split <;> omega
    have elo : jadd (if (rh (h 2 1) (w : Int) : Int) < (kh (h 2 1) : Int) then (rh (h 2 1) (w : Int) : Int) else (kh (h 2 1) : Int)) 1 = ((((if rh (h 2 1) (w : Int) < kh (h 2 1) then rh (h 2 1) (w : Int) else kh (h 2 1)) + 1 : Nat) : Nat) : Int) := by
      rw [jadd_eq (by split <;> omega) (by split <;> omega)]
      split <;> split <;> omega
    rw [elo]
    have hlen : ∃ m, ((if rh (h 2 1) (w : Int) < kh (h 2 1) then rh (h 2 1) (w : Int) else kh (h 2 1)) + 1) + m = (if kh (h 2 1) < rh (h 2 1) (w : Int) then rh (h 2 1) (w : Int) else kh (h 2 1)) ∧ m < 1000 ∧ ∀ x, cin (h 2 1) w x ↔ ((if rh (h 2 1) (w : Int) < kh (h 2 1) then rh (h 2 1) (w : Int) else kh (h 2 1)) + 1 ≤ x ∧ x < (if kh (h 2 1) < rh (h 2 1) (w : Int) then rh (h 2 1) (w : Int) else kh (h 2 1))) := by
      have hw2 : w = 0 ∨ w = 1 := by omega
      unfold cin rh kh
      rcases hS with e | e <;> rw [e] <;> rcases hw2 with e2 | e2 <;> subst e2 <;> simp
      · exact ⟨2, by omega, by omega, fun x => by omega⟩
      · exact ⟨3, by omega, by omega, fun x => by omega⟩
      · exact ⟨2, by omega, by omega, fun x => by omega⟩
      · exact ⟨3, by omega, by omega, fun x => by omega⟩
    obtain ⟨m, m1, m2, m3⟩ := hlen
    obtain ⟨r1, r2⟩ := mc_row h (kh (h 2 1)) (rh (h 2 1) (w : Int)) hkr hrr (fun l7 => f_Bd_mayCastle_lp75 h (kh (h 2 1) : Int) (rh (h 2 1) (w : Int) : Int) (fun l15 => some 1) 1000 0) m 1000 _ m1 m2
    by_cases d : ∀ x, (if rh (h 2 1) (w : Int) < kh (h 2 1) then rh (h 2 1) (w : Int) else kh (h 2 1)) + 1 ≤ x → x < (if kh (h 2 1) < rh (h 2 1) (w : Int) then rh (h 2 1) (w : Int) else kh (h 2 1)) → h 3 x = 0
    · rw [r1 d]
      refine yn_iff ha ⟨fun q => ⟨hb, fun x hx => ?_, q⟩, fun q => q.2.2⟩
      obtain ⟨z1, z2⟩ := (m3 x).mp hx
      exact d x z1 z2
    · rw [r2 d]
      exact yn0 (fun q => d (fun x h1 h2 => q.2.1 x ((m3 x).mpr ⟨h1, h2⟩)))
theorem acs_ok (t : Nat) (h0 : jH) (ht : 11 ≤ t) (hB : BR (h0 3)) (hS : h0 2 1 = 0 ∨ h0 2 1 = 1) (hr0 : 0 ≤ h0 2 2) (hr1 : h0 2 2 ≤ 15) : Adds t h0 (fun h => f_Mt_addCastling t h) (fun f x c => f = kh (h0 2 1) ∧ c = 0 ∧ ((x = f + 2 ∧ cx (h0 3) (h0 2 1) (h0 2 2) 0) ∨ (f = x + 2 ∧ cx (h0 3) (h0 2 1) (h0 2 2) 1))) := by
  have hk : kh (h0 2 1) = 4 ∨ kh (h0 2 1) = 60 := by unfold kh; split <;> omega
  have mcs : ∀ g Q (w : Nat), w < 2 → Tb t h0 g Q → YN (f_Bd_mayCastle g (w : Int)) (cx (h0 3) (h0 2 1) (h0 2 2) w) := by
    intro g Q w hw hT
    have e2 : g 2 = h0 2 := hT.1 2 (by omega) (by omega)
    have e3 : g 3 = h0 3 := hT.1 3 (by omega) (by omega)
    have := mc_ok g (by rw [e3]; exact hB) (by rw [e2]; exact hS) (by rw [e2]; exact hr0) (by rw [e2]; exact hr1) w hw
    rw [e2, e3] at this
    exact this
  have second : Adds t h0 (fun h => f_Mt_addCastling_j30 t h (kh (h0 2 1) : Int)) (fun f x c => f = kh (h0 2 1) ∧ c = 0 ∧ f = x + 2 ∧ cx (h0 3) (h0 2 1) (h0 2 2) 1) := by
    intro h Q hT
    show ∃ h', f_Mt_addCastling_j30 t h (kh (h0 2 1) : Int) = some h' ∧ _
    unfold f_Mt_addCastling_j30
    obtain ⟨v, v1, v2, v3⟩ := mcs h Q 1 (by omega) hT
    rw [show f_Bd_mayCastle h 1 = some v from v1, jsub_eq (by omega) (by omega)]
    simp only [obs]
    by_cases c : v = 0
    · rw [if_pos c]
      refine ⟨h, rfl, Tb_congr (fun f x c' _ _ _ => ⟨Or.inl, ?_⟩) hT⟩
      rintro (q | q)
      · exact q
      · have := v3.mpr q.2.2.2; omega
    · rw [if_neg c, jgd_pos (by omega), jgd_pos (by omega), show ((kh (h0 2 1) : Int) - 2).toNat = kh (h0 2 1) - 2 by omega]
      refine ⟨_, rfl, Tb_congr (fun f x c' _ _ _ => ?_) (Tb_add hT (c := 0) (x := kh (h0 2 1) - 2) (f := kh (h0 2 1)) (by omega) (by omega) (by omega))⟩
      constructor
      · rintro (q | ⟨q1, q2, q3⟩)
        · exact Or.inl q
        · exact Or.inr ⟨q1, q3, by omega, v3.mp (by omega)⟩
      · rintro (q | ⟨q1, q2, q3, q4⟩)
        · exact Or.inl q
        · exact Or.inr ⟨q1, by omega, q2⟩
  intro h Q hT
  have e2 : h 2 = h0 2 := hT.1 2 (by omega) (by omega)
  show ∃ h', f_Mt_addCastling t h = some h' ∧ _
  unfold f_Mt_addCastling
  obtain ⟨v, v1, v2, v3⟩ := mcs h Q 0 (by omega) hT
  rw [e2, kh_ok h hS]
  simp only [obs]
  rw [show f_Bd_mayCastle h 0 = some v from v1, jadd_eq (by omega) (by omega)]
  simp only [obs]
  by_cases c : v = 0
  · rw [if_pos c]
    obtain ⟨h', g1, g2⟩ := second h Q hT
    refine ⟨h', g1, Tb_congr (fun f x c' _ _ _ => ?_) g2⟩
    constructor
    · rintro (q | ⟨q1, q2, q3, q4⟩)
      · exact Or.inl q
      · exact Or.inr ⟨q1, q2, Or.inr ⟨q3, q4⟩⟩
    · rintro (q | ⟨q1, q2, q3 | q3⟩)
      · exact Or.inl q
      · have := v3.mpr q3.2; omega
      · exact Or.inr ⟨q1, q2, q3⟩
  · rw [if_neg c, jgd_pos (by omega), jgd_pos (by omega), show ((kh (h0 2 1) : Int) + 2).toNat = kh (h0 2 1) + 2 by omega]
    have hT' := Tb_add hT (c := 0) (x := kh (h0 2 1) + 2) (f := kh (h0 2 1)) (by omega) (by omega) (by omega)
    obtain ⟨h', g1, g2⟩ := second _ _ hT'
    refine ⟨h', g1, Tb_congr (fun f x c' _ _ _ => ?_) g2⟩
    constructor
    · rintro ((q | ⟨q1, q2, q3⟩) | ⟨q1, q2, q3, q4⟩)
      · exact Or.inl q
      · exact Or.inr ⟨q1, q3, Or.inl ⟨by omega, v3.mp (by omega)⟩⟩
      · exact Or.inr ⟨q1, q2, Or.inr ⟨q3, q4⟩⟩
    · rintro (q | ⟨q1, q2, q3 | q3⟩)
      · exact Or.inl (Or.inl q)
      · exact Or.inl (Or.inr ⟨q1, by omega, q2⟩)
      · exact Or.inr ⟨q1, q2, q3⟩
