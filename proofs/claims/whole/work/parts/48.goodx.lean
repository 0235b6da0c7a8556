/-! good positions: the class -/
theorem rf_ok (h : jH) {o d : Int} (ho : o = 0 ∨ o = 1) (d0 : 0 ≤ d) (d1 : d ≤ 7) : f_X_rankFor h o d = some (if o = 0 then d else 7 - d) := by
  unfold f_X_rankFor
  rw [jsub_eq (by omega) (by omega)]
theorem sq_ok (h : jH) {f r : Int} (f0 : 0 ≤ f) (f1 : f ≤ 7) (r0 : 0 ≤ r) (r1 : r ≤ 7) : f_X_squareAt h f r = some (8 * r + f) := by
  unfold f_X_squareAt
  rw [jmul_eq (by omega) (by omega), jadd_eq (by omega) (by omega)]
def kh (o : Int) : Nat := if o = 0 then 4 else 60
def rh (o w : Int) : Nat := if o = 0 then (if w = 0 then 7 else 0) else (if w = 0 then 63 else 56)
theorem kh_ok (h : jH) {o : Int} (ho : o = 0 ∨ o = 1) : f_X_kingHome h o = some (kh o : Int) := by
  unfold f_X_kingHome
  rw [rf_ok h ho (by omega) (by omega)]
  simp only [Option.bind_some]
  rcases ho with e | e <;> subst e
  · rw [sq_ok h (by omega) (by omega) (by decide) (by decide)]; rfl
  · rw [sq_ok h (by omega) (by omega) (by decide) (by decide)]; rfl
theorem rh_ok (h : jH) {o w : Int} (ho : o = 0 ∨ o = 1) (hw : w = 0 ∨ w = 1) : f_X_rookHome h o w = some (rh o w : Int) := by
  unfold f_X_rookHome f_X_rookHome_j10
  rw [rf_ok h ho (by omega) (by omega)]
  simp only [Option.bind_some]
  rcases ho with e | e <;> subst e <;> rcases hw with e | e <;> subst e
  · rw [sq_ok h (by decide) (by decide) (by decide) (by decide)]; rfl
  · rw [sq_ok h (by decide) (by decide) (by decide) (by decide)]; rfl
  · rw [sq_ok h (by decide) (by decide) (by decide) (by decide)]; rfl
  · rw [sq_ok h (by decide) (by decide) (by decide) (by decide)]; rfl
theorem rx_tab : ∀ r : Nat, r < 16 → ∀ o : Nat, o < 2 → ∀ w : Nat, w < 2 → (jand (r : Int) (jshl 1 (jadd (jmul 2 (o : Int)) (w : Int))) = 0 ↔ ¬ (r : Int) / (2 ^ (2 * o + w) : Nat) % 2 = 1) := by decide +kernel
theorem rx_ok (h : jH) {r : Int} (h0 : 0 ≤ r) (h1 : r ≤ 15) {o w : Nat} (ho : o < 2) (hw : w < 2) : ∃ v, f_X_rightOf h (o : Int) (w : Int) = some v ∧ (jand r v = 0 ↔ ¬ rbit r (2 * o + w)) := by
  obtain ⟨n, rfl⟩ : ∃ n : Nat, r = (n : Int) := ⟨r.toNat, by omega⟩
  exact ⟨_, rfl, rx_tab n (by omega) o ho w hw⟩
theorem rk1_x (b : Nat → Int) {o w : Nat} (ho : o < 2) (hw : w < 2) : rk1 b (2 * o + w) ↔ b (kh o) = (if (o : Int) = 0 then 6 else 6 + 6) ∧ b (rh o w) = (if (o : Int) = 0 then 4 else 4 + 6) := by
  have ho' : o = 0 ∨ o = 1 := by omega
  have hw' : w = 0 ∨ w = 1 := by omega
  rcases ho' with e | e <;> subst e <;> rcases hw' with e | e <;> subst e <;> exact Iff.rfl
theorem rr_step (h : jH) (h0 : 0 ≤ h 20 2) (h1 : h 20 2 ≤ 15) {o w : Nat} (ho : o < 2) (hw : w < 2) (k : Int → Option Int) (n : Nat) :
    ((rbit (h 20 2) (2 * o + w) → rk1 (h 21) (2 * o + w)) → f_Bd_hasRightsRight_lp9 h (o : Int) k (n + 1) (w : Int) = f_Bd_hasRightsRight_lp9 h (o : Int) k n ((w + 1 : Nat) : Int)) ∧
    (¬ (rbit (h 20 2) (2 * o + w) → rk1 (h 21) (2 * o + w)) → f_Bd_hasRightsRight_lp9 h (o : Int) k (n + 1) (w : Int) = some 0) := by
  obtain ⟨v, v1, v2⟩ := rx_ok h h0 h1 ho hw
  have hkh : kh (o : Int) < 64 := by unfold kh; split <;> omega
  have hrh : rh (o : Int) (w : Int) < 64 := by unfold rh; split <;> split <;> omega
  have hr := rk1_x (h 21) ho hw
  have st : ∀ x : Int, (x = 0 ∨ x = 1) → f_Bd_hasRightsRight_j55_9 (f_Bd_hasRightsRight_lp9 h (o : Int) k n) k h (o : Int) (w : Int) x = if ¬ jand (h 20 2) v = 0 ∧ x = 0 then some 0 else f_Bd_hasRightsRight_lp9 h (o : Int) k n ((w + 1 : Nat) : Int) := by
    intro x hx
    unfold f_Bd_hasRightsRight_j55_9
    rw [v1, jadd_eq (a := (w : Int)) (by omega) (by omega)]
    simp only [Option.bind_some]
    by_cases r : rbit (h 20 2) (2 * o + w)
    · rw [if_neg (fun q => v2.mp q r)]
      by_cases e : x = 0
      · rw [if_pos e, if_pos ⟨fun q => v2.mp q r, e⟩]
      · rw [if_neg e, if_neg (fun q => e q.2)]; rfl
    · rw [if_pos (v2.mpr r), if_neg (fun q => q.1 (v2.mpr r))]; rfl
  rw [f_Bd_hasRightsRight_lp9, if_neg (show ¬ 2 ≤ (w : Int) by omega), kh_ok h (by omega), po_ok h (by omega) (by omega), rh_ok h (by omega) (by omega), po_ok h (by omega) (by omega)]
  generalize (if (o : Int) = 0 then (6 : Int) else 6 + 6) = P at hr ⊢
  generalize (if (o : Int) = 0 then (4 : Int) else 4 + 6) = R at hr ⊢
  simp only [Option.bind_some]
  rw [jgd_pos (by omega), jgd_pos (by omega), Int.toNat_natCast, Int.toNat_natCast]
  unfold f_Bd_hasRightsRight_j54_9
  rw [st 1 (Or.inr rfl), st 0 (Or.inl rfl), if_neg (show ¬ (¬ jand (h 20 2) v = 0 ∧ (1 : Int) = 0) from fun q => (by cases q.2)), hr]
  by_cases g : h 21 (kh (o : Int)) = P ∧ h 21 (rh (o : Int) (w : Int)) = R
  · rw [if_pos g.1, if_pos g.2]
    exact ⟨fun _ => rfl, fun q => absurd (fun _ => g) q⟩
  · have e : (if h 21 (kh (o : Int)) = P then if h 21 (rh (o : Int) (w : Int)) = R then f_Bd_hasRightsRight_lp9 h (o : Int) k n ((w + 1 : Nat) : Int) else (if ¬ jand (h 20 2) v = 0 ∧ (0 : Int) = 0 then some 0 else f_Bd_hasRightsRight_lp9 h (o : Int) k n ((w + 1 : Nat) : Int)) else (if ¬ jand (h 20 2) v = 0 ∧ (0 : Int) = 0 then some 0 else f_Bd_hasRightsRight_lp9 h (o : Int) k n ((w + 1 : Nat) : Int))) = (if ¬ jand (h 20 2) v = 0 ∧ (0 : Int) = 0 then some 0 else f_Bd_hasRightsRight_lp9 h (o : Int) k n ((w + 1 : Nat) : Int)) := by
      by_cases g1 : h 21 (kh (o : Int)) = P
      · rw [if_pos g1, if_neg (fun g2 => g ⟨g1, g2⟩)]
      · rw [if_neg g1]
    rw [e]
    by_cases r : rbit (h 20 2) (2 * o + w)
    · rw [if_pos ⟨fun q => v2.mp q r, rfl⟩]; exact ⟨fun q => absurd (q r) g, fun _ => rfl⟩
    · rw [if_neg (fun q => q.1 (v2.mpr r))]; exact ⟨fun _ => rfl, fun q => absurd (fun z => absurd z r) q⟩
theorem hrX (h : jH) (h0 : 0 ≤ h 20 2) (h1 : h 20 2 ≤ 15) : ∃ v, f_Bd_hasRightsRight h = some v ∧ (v = 0 ∨ v = 1) ∧ (v = 1 ↔ rgt (h 21) (h 20 2)) := by
  have inn : ∀ (o : Nat), o < 2 → ∀ (k : Int → Option Int), ((∀ w, w < 2 → rbit (h 20 2) (2 * o + w) → rk1 (h 21) (2 * o + w)) → f_Bd_hasRightsRight_lp9 h (o : Int) k 1000 0 = k 2) ∧ (¬ (∀ w, w < 2 → rbit (h 20 2) (2 * o + w) → rk1 (h 21) (2 * o + w)) → f_Bd_hasRightsRight_lp9 h (o : Int) k 1000 0 = some 0) := by
    intro o ho k
    have s0 := rr_step h h0 h1 ho (w := 0) (by omega) k 999
    have s1 := rr_step h h0 h1 ho (w := 1) (by omega) k 998
    have s2 : f_Bd_hasRightsRight_lp9 h (o : Int) k 998 ((2 : Nat) : Int) = k 2 := by
      rw [f_Bd_hasRightsRight_lp9, if_pos (by omega)]; rfl
    constructor
    · intro q
      exact (s0.1 (q 0 (by omega))).trans ((s1.1 (q 1 (by omega))).trans s2)
    · intro q
      by_cases q0 : rbit (h 20 2) (2 * o + 0) → rk1 (h 21) (2 * o + 0)
      · by_cases q1 : rbit (h 20 2) (2 * o + 1) → rk1 (h 21) (2 * o + 1)
        · exfalso; apply q
          intro w hw
          have : w = 0 ∨ w = 1 := by omega
          rcases this with e | e <;> subst e
          · exact q0
          · exact q1
        · exact (s0.1 q0).trans (s1.2 q1)
      · exact s0.2 q0
  unfold f_Bd_hasRightsRight
  have st : ∀ (n o : Nat), o < 2 → f_Bd_hasRightsRight_lp2 h (fun l13 => some 1) (n + 1) (o : Int) = f_Bd_hasRightsRight_lp9 h (o : Int) (fun l12 => f_Bd_hasRightsRight_lp2 h (fun l13 => some 1) n ((o + 1 : Nat) : Int)) 1000 0 := by
    intro n o ho
    rw [f_Bd_hasRightsRight_lp2, if_neg (by omega), jadd_eq (by omega) (by omega)]; rfl
  have e0 := st 999 0 (by omega)
  have e1 := st 998 1 (by omega)
  have e2 : f_Bd_hasRightsRight_lp2 h (fun l13 => some 1) 998 ((2 : Nat) : Int) = some 1 := by
    rw [f_Bd_hasRightsRight_lp2, if_pos (by omega)]
  rw [show f_Bd_hasRightsRight_lp2 h (fun l13 => some 1) 1000 0 = _ from e0]
  have i0 := inn 0 (by omega) (fun l12 => f_Bd_hasRightsRight_lp2 h (fun l13 => some 1) 999 ((0 + 1 : Nat) : Int))
  have i1 := inn 1 (by omega) (fun l12 => f_Bd_hasRightsRight_lp2 h (fun l13 => some 1) 998 ((1 + 1 : Nat) : Int))
  by_cases q0 : (∀ w, w < 2 → rbit (h 20 2) (2 * 0 + w) → rk1 (h 21) (2 * 0 + w))
  · rw [i0.1 q0]
    by_cases q1 : (∀ w, w < 2 → rbit (h 20 2) (2 * 1 + w) → rk1 (h 21) (2 * 1 + w))
    · refine ⟨1, e1.trans ((i1.1 q1).trans e2), Or.inr rfl, ⟨fun _ i hi hr => ?_, fun _ => rfl⟩⟩
      have : i = 2 * 0 + 0 ∨ i = 2 * 0 + 1 ∨ i = 2 * 1 + 0 ∨ i = 2 * 1 + 1 := by omega
      rcases this with e | e | e | e <;> rw [e] at hr ⊢
      · exact q0 0 (by omega) hr
      · exact q0 1 (by omega) hr
      · exact q1 0 (by omega) hr
      · exact q1 1 (by omega) hr
    · exact ⟨0, e1.trans (i1.2 q1), Or.inl rfl, ⟨fun q => (by cases q), fun q => absurd (fun w hw => q (2 * 1 + w) (by omega)) q1⟩⟩
  · rw [i0.2 q0]
    exact ⟨0, rfl, Or.inl rfl, ⟨fun q => (by cases q), fun q => absurd (fun w hw => q (2 * 0 + w) (by omega)) q0⟩⟩
theorem hfX (h : jH) (hs : h 20 1 = 0 ∨ h 20 1 = 1) (h0 : -1 ≤ h 20 3) (h1 : h 20 3 ≤ 7) : ∃ v, f_Bd_hasFileRight h = some v ∧ (v = 0 ∨ v = 1) ∧ (v = 1 ↔ fil (h 21) (h 20 1) (h 20 3)) := by
  unfold f_Bd_hasFileRight fil f_X_otherSide
  by_cases e : h 20 3 = -1
  · rw [if_pos e]; exact ⟨1, rfl, Or.inr rfl, ⟨fun _ => Or.inl (by omega), fun _ => rfl⟩⟩
  · rw [if_neg e]
    obtain ⟨f, hf⟩ : ∃ f : Nat, h 20 3 = (f : Int) := ⟨(h 20 3).toNat, by omega⟩
    rw [hf, (side_sub hs).1]
    have hf7 : f < 8 := by omega
    simp only [Option.bind_some]
    rw [rf_ok h (by omega) (by omega) (by omega), rf_ok h (by omega) (by omega) (by omega), rf_ok h (by omega) (by omega) (by omega), po_ok h (by omega) (by omega)]
    simp only [Option.bind_some]
    have key : ∀ (c1 c2 c3 v : Int) (n1 n2 n3 : Nat), (0 ≤ c1 ∧ c1 ≤ 7 ∧ 8 * c1 = (n1 : Int)) → (0 ≤ c2 ∧ c2 ≤ 7 ∧ 8 * c2 = (n2 : Int)) → (0 ≤ c3 ∧ c3 ≤ 7 ∧ 8 * c3 = (n3 : Int)) → ∃ w : Int, ((f_X_squareAt h (f : Int) c1).bind fun v3 => jgd (0 ≤ v3 ∧ v3 < 64) (if h 21 v3.toNat = 0 then (f_X_squareAt h (f : Int) c2).bind fun v5 => jgd (0 ≤ v5 ∧ v5 < 64) (if h 21 v5.toNat = 0 then (f_X_squareAt h (f : Int) c3).bind fun v7 => jgd (0 ≤ v7 ∧ v7 < 64) (some (if h 21 v7.toNat = v then 1 else 0)) else some 0) else some 0)) = some w ∧ (w = 0 ∨ w = 1) ∧ (w = 1 ↔ h 21 (n3 + f) = v ∧ h 21 (n2 + f) = 0 ∧ h 21 (n1 + f) = 0) := by
      rintro c1 c2 c3 v n1 n2 n3 ⟨a1, a2, a3⟩ ⟨b1, b2, b3⟩ ⟨d1, d2, d3⟩
      rw [sq_ok h (by omega) (by omega) a1 a2, sq_ok h (by omega) (by omega) b1 b2, sq_ok h (by omega) (by omega) d1 d2]
      simp only [Option.bind_some]
      rw [jgd_pos (by omega), jgd_pos (by omega), jgd_pos (by omega), show (8 * c1 + (f : Int)).toNat = n1 + f by omega, show (8 * c2 + (f : Int)).toNat = n2 + f by omega, show (8 * c3 + (f : Int)).toNat = n3 + f by omega]
      by_cases g1 : h 21 (n1 + f) = 0
      · rw [if_pos g1]
        by_cases g2 : h 21 (n2 + f) = 0
        · rw [if_pos g2]
          by_cases g3 : h 21 (n3 + f) = v
          · rw [if_pos g3]; exact ⟨1, rfl, Or.inr rfl, ⟨fun _ => ⟨g3, g2, g1⟩, fun _ => rfl⟩⟩
          · rw [if_neg g3]; exact ⟨0, rfl, Or.inl rfl, ⟨fun q => (by cases q), fun q => absurd q.1 g3⟩⟩
        · rw [if_neg g2]; exact ⟨0, rfl, Or.inl rfl, ⟨fun q => (by cases q), fun q => absurd q.2.1 g2⟩⟩
      · rw [if_neg g1]; exact ⟨0, rfl, Or.inl rfl, ⟨fun q => (by cases q), fun q => absurd q.2.2 g1⟩⟩
    rw [Int.toNat_natCast]
    rcases hs with hs | hs
    · rw [hs, show (1 - 0 : Int) = 1 by decide, if_neg (by decide), if_neg (by decide), if_neg (by decide), if_neg (by decide)]
      obtain ⟨w, w1, w2, w3⟩ := key (7 - 1) (7 - 2) (7 - 3) (1 + 6) 48 40 32 (by decide) (by decide) (by decide)
      rw [w1]
      refine ⟨w, rfl, w2, w3.trans ⟨fun q => Or.inr (Or.inr ⟨rfl, q⟩), ?_⟩⟩
      rintro (q | q | q)
      · omega
      · omega
      · exact q.2
    · rw [hs, show (1 - 1 : Int) = 0 by decide, if_pos rfl, if_pos rfl, if_pos rfl, if_pos rfl]
      obtain ⟨w, w1, w2, w3⟩ := key 1 2 3 1 8 16 24 (by decide) (by decide) (by decide)
      rw [w1]
      refine ⟨w, rfl, w2, w3.trans ⟨fun q => Or.inr (Or.inl ⟨rfl, q⟩), ?_⟩⟩
      rintro (q | q | q)
      · omega
      · exact q.2
      · omega
theorem ikX (h : jH) (r : Nat) {k : Nat} {side : Int} (hB : BR (h (r + 1))) (hs : side = 0 ∨ side = 1) (hu : uk (h (r + 1)) side k) : ∃ v, f_Bd_isKingAttacked r h side = some v ∧ (v = 0 ∨ v = 1) ∧ (v = 1 ↔ atd (h (r + 1)) k (1 - side)) := by
  unfold f_Bd_isKingAttacked f_X_otherSide
  rw [ks_ok h r hu, (side_sub hs).1]
  simp only [Option.bind_some]
  rw [if_neg (by omega)]
  obtain ⟨v, v1, v2⟩ := ao_zero h r hB hu.1 (side_sub hs).2
  rw [v1]
  simp only [Option.bind_some]
  by_cases e : jcmp v 0 = 0
  · rw [if_pos e]; exact ⟨0, rfl, Or.inl rfl, ⟨fun q => (by cases q), fun q => absurd q (v2.mp e)⟩⟩
  · rw [if_neg e]; exact ⟨1, rfl, Or.inr rfl, ⟨fun _ => Classical.byContradiction (fun q => e (v2.mpr q)), fun _ => rfl⟩⟩
theorem gdX (h : jH) (hB : BR (h 21)) (hS : StR (h 20 1) (h 20 2) (h 20 3)) : ∃ v, f_Bd_isGood h = some v ∧ (v = 0 ∨ v = 1) ∧ (v = 1 ↔ Gd (h 21) (h 20 1) (h 20 2) (h 20 3)) := by
  obtain ⟨s1, s2, s3, s4, s5⟩ := hS
  unfold f_Bd_isGood Gd f_X_otherSide
  obtain ⟨v, v1, v2, v3⟩ := hkX h hB
  obtain ⟨w, w1, w2, w3⟩ := hrX h s2 s3
  obtain ⟨x, x1, x2, x3⟩ := hfX h s1 s4 s5
  rw [v1, w1, x1]
  simp only [Option.bind_some]
  have no : ∀ {P : Prop}, ¬ P → ∃ v : Int, some (0 : Int) = some v ∧ (v = 0 ∨ v = 1) ∧ (v = 1 ↔ P) := fun hP => ⟨0, rfl, Or.inl rfl, ⟨fun q => (by cases q), fun q => absurd q hP⟩⟩
  by_cases e1 : v = 0
  · rw [if_pos e1]; exact no (fun q => by have := v3.mpr ⟨q.1, q.2.1⟩; omega)
  · rw [if_neg e1]
    by_cases e2 : w = 0
    · rw [if_pos e2]; exact no (fun q => by have := w3.mpr q.2.2.1; omega)
    · rw [if_neg e2]
      by_cases e3 : x = 0
      · rw [if_pos e3]; exact no (fun q => by have := x3.mpr q.2.2.2.1; omega)
      · rw [if_neg e3, (side_sub s1).1]
        have hv := v3.mp (by omega)
        obtain ⟨k, hk⟩ := kgs_uk hv.1 (side_sub s1).2
        obtain ⟨y, y1, y2, y3⟩ := ikX h 20 hB (side_sub s1).2 hk
        rw [show (1 - (1 - h 20 1) : Int) = h 20 1 by omega] at y3
        rw [y1]
        simp only [Option.bind_some]
        by_cases e4 : y = 0
        · rw [if_pos e4]
          refine ⟨1, rfl, Or.inr rfl, ⟨fun _ => ⟨hv.1, hv.2, w3.mp (by omega), x3.mp (by omega), fun k' hk' => ?_⟩, fun _ => rfl⟩⟩
          rw [uk_one hk' hk]
          intro q
          have := y3.mpr q
          omega
        · rw [if_neg e4]
          exact no (fun q => q.2.2.2.2 k hk (y3.mp (by omega)))
