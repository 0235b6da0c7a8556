/-! good positions: both sides' check -/
def ct (b : Nat → Int) (v : Int) : Nat → Int
  | 0 => 0
  | n + 1 => ct b v n + (if b n = v then 1 else 0)
theorem ct_rng (b : Nat → Int) (v : Int) : ∀ n, 0 ≤ ct b v n ∧ ct b v n ≤ n ∧ (ct b v n = 0 ↔ ∀ s, s < n → b s ≠ v) ∧ (ct b v n = 1 ↔ ∃ k, k < n ∧ b k = v ∧ ∀ s, s < n → b s = v → s = k) := by
  intro n
  induction n with
  | zero => exact ⟨by unfold ct; omega, by unfold ct; omega, ⟨fun _ s hs => (by omega), fun _ => rfl⟩, ⟨fun z => (by cases z), fun ⟨k, hk, _⟩ => (by omega)⟩⟩
  | succ n ih =>
    obtain ⟨i1, i2, i3, i4⟩ := ih
    unfold ct
    by_cases e : b n = v
    · rw [if_pos e]
      refine ⟨by omega, by omega, ⟨fun z => by omega, fun z => absurd e (z n (by omega))⟩, ?_⟩
      constructor
      · intro z
        have z0 := i3.mp (by omega)
        refine ⟨n, by omega, e, fun s hs hv => ?_⟩
        by_cases q : s = n
        · exact q
        · exact absurd hv (z0 s (by omega))
      · rintro ⟨k, k1, k2, k3⟩
        have hn := k3 n (by omega) e
        have : ct b v n = 0 := i3.mpr (fun s hs hv => by have := k3 s (by omega) hv; omega)
        omega
    · rw [if_neg e, Int.add_zero]
      refine ⟨i1, by omega, ?_, ?_⟩
      · rw [i3]
        constructor
        · intro z s hs
          by_cases q : s = n
          · subst q; exact e
          · exact z s (by omega)
        · intro z s hs; exact z s (by omega)
      · rw [i4]
        constructor
        · rintro ⟨k, k1, k2, k3⟩
          refine ⟨k, by omega, k2, fun s hs hv => ?_⟩
          by_cases q : s = n
          · subst q; exact absurd hv e
          · exact k3 s (by omega) hv
        · rintro ⟨k, k1, k2, k3⟩
          have : k ≠ n := fun q => e (q ▸ k2)
          exact ⟨k, by omega, k2, fun s hs hv => k3 s (by omega) hv⟩
def pwn (b : Nat → Int) : Prop := ∀ s, s < 64 → kd (b s) = 1 → 8 ≤ s ∧ s < 56
def rbit (r : Int) (i : Nat) : Prop := r / (2 ^ i : Nat) % 2 = 1
def hm (i : Nat) : Nat := if i < 2 then 0 else 56
def hc (i : Nat) : Int := if i < 2 then 0 else 6
def rk1 (b : Nat → Int) (i : Nat) : Prop := b (hm i + 4) = 6 + hc i ∧ b (hm i + (if i % 2 = 0 then 7 else 0)) = 4 + hc i
def rgt (b : Nat → Int) (r : Int) : Prop := ∀ i, i < 4 → rbit r i → rk1 b i
def fil (b : Nat → Int) (side file : Int) : Prop := file < 0 ∨ (side = 1 ∧ b (24 + file.toNat) = 1 ∧ b (16 + file.toNat) = 0 ∧ b (8 + file.toNat) = 0) ∨ (side = 0 ∧ b (32 + file.toNat) = 7 ∧ b (40 + file.toNat) = 0 ∧ b (48 + file.toNat) = 0)
def StR (side rights file : Int) : Prop := (side = 0 ∨ side = 1) ∧ 0 ≤ rights ∧ rights ≤ 15 ∧ -1 ≤ file ∧ file ≤ 7
def Kgs (b : Nat → Int) : Prop := (∃ k, uk b 0 k) ∧ (∃ k, uk b 1 k)
def Gd (b : Nat → Int) (side rights file : Int) : Prop := Kgs b ∧ pwn b ∧ rgt b rights ∧ fil b side file ∧ ∀ k, uk b (1 - side) k → ¬ atd b k side
theorem kgs_ct (b : Nat → Int) : Kgs b ↔ ct b 6 64 = 1 ∧ ct b 12 64 = 1 := by
  rw [(ct_rng b 6 64).2.2.2, (ct_rng b 12 64).2.2.2]
  rfl
theorem uk_one {b : Nat → Int} {side : Int} {k k' : Nat} (h : uk b side k) (h' : uk b side k') : k = k' := h'.2.2 k h.1 h.2.1
/- the reference -/
theorem hkM (h : jH) {p : Nat} (hp : p < 304) (hB : BR (mb h p)) : ∃ v, f_M_hasKings h (p : Int) = some v ∧ (v = 0 ∨ v = 1) ∧ (v = 1 ↔ Kgs (mb h p) ∧ pwn (mb h p)) := by
  unfold f_M_hasKings
  obtain ⟨⟨x, y, z⟩, ⟨h1, h2, h3, h4⟩, h5⟩ := lp_all (fun n (i : Nat) (s : Int × Int × Int) => f_M_hasKings_lp10 h (p : Int) (fun l18 l19 l20 l21 => some (if l18 = 1 then if l19 = 1 then if l20 = 0 then 0 else 1 else 0 else 0)) n s.1 s.2.1 s.2.2 (i : Int)) 64 (fun s => some (if s.1 = 1 then if s.2.1 = 1 then if s.2.2 = 0 then 0 else 1 else 0 else 0))
    (fun i s => s.1 = ct (mb h p) 6 i ∧ s.2.1 = ct (mb h p) 12 i ∧ (s.2.2 = 0 ∨ s.2.2 = 1) ∧ (s.2.2 = 1 ↔ ∀ s, s < i → kd (mb h p s) = 1 → 8 ≤ s ∧ s < 56)) (by
      intro n s hs
      show f_M_hasKings_lp10 _ _ _ (n + 1) _ _ _ _ = _
      rw [f_M_hasKings_lp10, if_pos (by omega)]) (by
      rintro n i ⟨x, y, z⟩ hi ⟨h1, h2, h3, h4⟩
      show ∃ s', _ ∧ f_M_hasKings_lp10 _ _ _ (n + 1) x y z _ = f_M_hasKings_lp10 _ _ _ n _ _ _ ((i + 1 : Nat) : Int)
      simp only at h1 h2 h3 h4
      obtain ⟨b0, b1⟩ := hB i hi
      have r6 := ct_rng (mb h p) 6 i
      have r12 := ct_rng (mb h p) 12 i
      refine ⟨(ct (mb h p) 6 (i + 1), ct (mb h p) 12 (i + 1), if z = 0 then 0 else if kd (mb h p i) = 1 then if (i : Int) < 8 then 0 else if 55 < (i : Int) then 0 else 1 else 1), ⟨rfl, rfl, ?_, ?_⟩, ?_⟩
      · by_cases z0 : z = 0
        · simp only [z0]; exact Or.inl rfl
        · simp only [if_neg z0]
          split
          · split
            · exact Or.inl rfl
            · split
              · exact Or.inl rfl
              · exact Or.inr rfl
          · exact Or.inr rfl
      · rw [all_lt_succ (i := i) (P := fun s => kd (mb h p s) = 1 → 8 ≤ s ∧ s < 56), ← h4]
        rcases h3 with e | e
        · subst e
          exact ⟨fun q => (by cases q), fun q => (by cases q.1)⟩
        · subst e
          simp only [if_neg (show ¬ (1 : Int) = 0 by decide)]
          by_cases k1 : kd (mb h p i) = 1
          · simp only [if_pos k1]
            by_cases q1 : (i : Int) < 8
            · simp only [if_pos q1]
              exact ⟨fun q => (by cases q), fun q => (by have := q.2 k1; omega)⟩
            · simp only [if_neg q1]
              by_cases q2 : 55 < (i : Int)
              · simp only [if_pos q2]
                exact ⟨fun q => (by cases q), fun q => (by have := q.2 k1; omega)⟩
              · simp only [if_neg q2]
                exact ⟨fun _ => ⟨by trivial, fun _ => (by omega)⟩, fun _ => by trivial⟩
          · simp only [if_neg k1]
            exact ⟨fun _ => ⟨by trivial, fun q => absurd q k1⟩, fun _ => by trivial⟩
      · rw [f_M_hasKings_lp10, if_neg (by omega), pc_ok h hp hi]
        simp only [Option.bind_some]
        unfold f_M_hasKings_j40_10 f_M_hasKings_j55_10
        rw [jadd_eq (a := x) (by omega) (by omega), jadd_eq (a := y) (by omega) (by omega), jadd_eq (a := (i : Int)) (by omega) (by omega), kdM_ok h b0 b1]
        simp only [Option.bind_some]
        have e1 : (if mb h p i = 6 then x + 1 else x) = ct (mb h p) 6 (i + 1) := by
          conv => rhs; unfold ct
          rw [h1]; split <;> omega
        have e2 : (if mb h p i = 12 then y + 1 else y) = ct (mb h p) 12 (i + 1) := by
          conv => rhs; unfold ct
          rw [h2]; split <;> omega
        rw [e1, e2]
        by_cases z0 : z = 0
        · rw [if_pos z0, if_pos z0]; rfl
        · rw [if_neg z0, if_neg z0]; rfl) (0, 0, 1) 1000 ⟨rfl, rfl, Or.inr rfl, ⟨fun _ s hs => (by omega), fun _ => rfl⟩⟩ (by omega)
  simp only at h1 h2 h3 h4 h5
  rw [kgs_ct, ← h1, ← h2]
  refine ⟨_, h5, ?_, ?_⟩
  · split
    · split
      · split
        · exact Or.inl rfl
        · exact Or.inr rfl
      · exact Or.inl rfl
    · exact Or.inl rfl
  · by_cases q1 : x = 1
    · rw [if_pos q1]
      by_cases q2 : y = 1
      · rw [if_pos q2]
        rcases h3 with e | e
        · rw [if_pos e]
          exact ⟨fun q => (by cases q), fun q => (by have := h4.mpr q.2; omega)⟩
        · rw [if_neg (by omega)]
          exact ⟨fun _ => ⟨⟨q1, q2⟩, h4.mp e⟩, fun _ => rfl⟩
      · rw [if_neg q2]
        exact ⟨fun q => (by cases q), fun q => absurd q.1.2 q2⟩
    · rw [if_neg q1]
      exact ⟨fun q => (by cases q), fun q => absurd q.1.1 q1⟩
theorem rb_tab : ∀ r : Nat, r < 16 → ∀ i : Nat, i < 4 → (jand (jshr (r : Int) (i : Int)) 1 = 1 ↔ (r : Int) / (2 ^ i : Nat) % 2 = 1) := by decide +kernel
theorem rb_ok {r : Int} (h0 : 0 ≤ r) (h1 : r ≤ 15) {i : Nat} (hi : i < 4) : jand (jshr r (i : Int)) 1 = 1 ↔ rbit r i := by
  obtain ⟨n, rfl⟩ : ∃ n : Nat, r = (n : Int) := ⟨r.toNat, by omega⟩
  exact rb_tab n (by omega) i hi
theorem arM (h : jH) {p : Nat} (hp : p < 304) (h0 : 0 ≤ h 27 p) (h1 : h 27 p ≤ 15) : ∃ v, f_M_areRights h (p : Int) = some v ∧ (v = 0 ∨ v = 1) ∧ (v = 1 ↔ rgt (mb h p) (h 27 p)) := by
  unfold f_M_areRights
  obtain ⟨x, ⟨q1, q2⟩, q3⟩ := lp_all (fun n (i : Nat) (s : Int) => f_M_areRights_lp4 h (p : Int) (fun l18 l19 => jgd (l18 = 0 ∨ l18 = 1) (some l18)) n s (i : Int)) 4 (fun s => jgd (s = 0 ∨ s = 1) (some s))
    (fun i s => (s = 0 ∨ s = 1) ∧ (s = 1 ↔ ∀ j, j < i → rbit (h 27 p) j → rk1 (mb h p) j)) (by
      intro n s hs
      show f_M_areRights_lp4 _ _ _ (n + 1) _ _ = _
      rw [f_M_areRights_lp4, if_pos (by omega)]) (by
      rintro n i s hi ⟨i1, i2⟩
      show ∃ s', _ ∧ f_M_areRights_lp4 _ _ _ (n + 1) _ _ = f_M_areRights_lp4 _ _ _ n s' ((i + 1 : Nat) : Int)
      rw [f_M_areRights_lp4, if_neg (by omega), jgd_pos (by omega), Int.toNat_natCast, jadd_eq (a := (i : Int)) (by omega) (by omega)]
      by_cases e : rbit (h 27 p) i
      · rw [if_pos ((rb_ok h0 h1 hi).mpr e)]
        unfold f_M_areRights_j34_4 f_M_areRights_j47_4 f_M_areRights_j86_4
        rw [jadd_eq (a := (i : Int)) (by omega) (by omega), jrem_eq (by omega) (by omega) (by omega) (by omega)]
        have hmi : (if 2 ≤ (i : Int) then (56 : Int) else 0) = ((hm i : Nat) : Int) := by unfold hm; split <;> split <;> omega
        have hci : (if 2 ≤ (i : Int) then (6 : Int) else 0) = hc i := by unfold hc; split <;> split <;> omega
        have hmr : hm i = 0 ∨ hm i = 56 := by unfold hm; split <;> omega
        have hcr : hc i = 0 ∨ hc i = 6 := by unfold hc; split <;> omega
        have hw : (if (i : Int) % 2 = 0 then (7 : Int) else 0) = (((if i % 2 = 0 then 7 else 0 : Nat) : Nat) : Int) := by split <;> split <;> omega
        have hwr : (if i % 2 = 0 then 7 else 0 : Nat) = 0 ∨ (if i % 2 = 0 then 7 else 0 : Nat) = 7 := by split <;> omega
        have hr : rk1 (mb h p) i ↔ mb h p (hm i + 4) = 6 + hc i ∧ mb h p (hm i + (if i % 2 = 0 then 7 else 0 : Nat)) = 4 + hc i := Iff.rfl
        rw [hmi, hci, hw]
        generalize (if i % 2 = 0 then 7 else 0 : Nat) = w at hwr hr ⊢
        rw [jadd_eq (a := ((hm i : Nat) : Int)) (by omega) (by omega), jadd_eq (a := 6) (by omega) (by omega), jadd_eq (a := ((hm i : Nat) : Int)) (b := (w : Int)) (by omega) (by omega), jadd_eq (a := 4) (by omega) (by omega),
          show ((hm i : Nat) : Int) + 4 = ((hm i + 4 : Nat) : Int) by omega, show ((hm i : Nat) : Int) + (w : Int) = ((hm i + w : Nat) : Int) by omega, pc_ok h hp (by omega), pc_ok h hp (by omega)]
        simp only [Option.bind_some]
        have fin : ∀ v : Int, (v = 0 ∨ v = 1) → (v = 1 ↔ s = 1 ∧ rk1 (mb h p) i) → ((v = 0 ∨ v = 1) ∧ (v = 1 ↔ ∀ j, j < i + 1 → rbit (h 27 p) j → rk1 (mb h p) j)) := by
          intro v v1 v2
          refine ⟨v1, ?_⟩
          rw [all_lt_succ (i := i) (P := fun j => rbit (h 27 p) j → rk1 (mb h p) j), ← i2, v2]
          exact ⟨fun q => ⟨q.1, fun _ => q.2⟩, fun q => ⟨q.1, q.2 e⟩⟩
        rcases i1 with i1 | i1
        · rw [if_pos i1]
          exact ⟨0, fin 0 (Or.inl rfl) ⟨fun q => (by cases q), fun q => (by omega)⟩, rfl⟩
        · rw [if_neg (by omega)]
          by_cases g1 : mb h p (hm i + 4) = 6 + hc i
          · rw [if_pos g1]
            by_cases g2 : mb h p (hm i + w) = 4 + hc i
            · rw [if_pos g2]
              exact ⟨1, fin 1 (Or.inr rfl) ⟨fun _ => ⟨i1, hr.mpr ⟨g1, g2⟩⟩, fun _ => rfl⟩, rfl⟩
            · rw [if_neg g2]
              exact ⟨0, fin 0 (Or.inl rfl) ⟨fun q => (by cases q), fun q => absurd (hr.mp q.2).2 g2⟩, rfl⟩
          · rw [if_neg g1]
            exact ⟨0, fin 0 (Or.inl rfl) ⟨fun q => (by cases q), fun q => absurd (hr.mp q.2).1 g1⟩, rfl⟩
      · rw [if_neg (fun q => e ((rb_ok h0 h1 hi).mp q))]
        refine ⟨s, ⟨i1, ?_⟩, rfl⟩
        rw [all_lt_succ (i := i) (P := fun j => rbit (h 27 p) j → rk1 (mb h p) j), ← i2]
        exact ⟨fun q => ⟨q, fun z => absurd z e⟩, fun q => q.1⟩) 1 1000 ⟨Or.inr rfl, ⟨fun _ j hj => (by omega), fun _ => rfl⟩⟩ (by omega)
  exact ⟨x, q3.trans (jgd_pos q1), q1, q2⟩
theorem ifM (h : jH) {p : Nat} (hp : p < 304) (hs : h 26 p = 0 ∨ h 26 p = 1) (h0 : -1 ≤ h 28 p) (h1 : h 28 p ≤ 7) : ∃ v, f_M_isFile h (p : Int) = some v ∧ (v = 0 ∨ v = 1) ∧ (v = 1 ↔ fil (mb h p) (h 26 p) (h 28 p)) := by
  unfold f_M_isFile fil
  rw [jgd_pos (by omega), jgd_pos (by omega), Int.toNat_natCast]
  by_cases e : 0 ≤ h 28 p
  · rw [if_pos e]
    obtain ⟨f, hf⟩ : ∃ f : Nat, h 28 p = (f : Int) := ⟨(h 28 p).toNat, by omega⟩
    rw [hf, Int.toNat_natCast]
    have hf7 : f < 8 := by omega
    have ad : ∀ c : Nat, c ≤ 48 → f_M_piece h (p : Int) (jadd (c : Int) (f : Int)) = some (mb h p (c + f)) := by
      intro c hc
      rw [jadd_eq (by omega) (by omega), show (c : Int) + (f : Int) = ((c + f : Nat) : Int) by omega]
      exact pc_ok h hp (by omega)
    have three : ∀ (s v : Int) (c1 c2 c3 : Nat), c1 ≤ 48 → c2 ≤ 48 → c3 ≤ 48 → ∃ w : Int, ((f_M_piece h (p : Int) (jadd (c1 : Int) (f : Int))).bind fun v4 => if v4 = v then (f_M_piece h (p : Int) (jadd (c2 : Int) (f : Int))).bind fun v5 => if v5 = 0 then (f_M_piece h (p : Int) (jadd (c3 : Int) (f : Int))).bind fun v6 => some (if v6 = 0 then 1 else 0) else some 0 else some 0) = some w ∧ (w = 0 ∨ w = 1) ∧ (w = 1 ↔ mb h p (c1 + f) = v ∧ mb h p (c2 + f) = 0 ∧ mb h p (c3 + f) = 0) := by
      intro s v c1 c2 c3 k1 k2 k3
      rw [ad c1 k1, ad c2 k2, ad c3 k3]
      simp only [Option.bind_some]
      by_cases g1 : mb h p (c1 + f) = v
      · rw [if_pos g1]
        by_cases g2 : mb h p (c2 + f) = 0
        · rw [if_pos g2]
          by_cases g3 : mb h p (c3 + f) = 0
          · rw [if_pos g3]; exact ⟨1, rfl, Or.inr rfl, ⟨fun _ => ⟨g1, g2, g3⟩, fun _ => rfl⟩⟩
          · rw [if_neg g3]; exact ⟨0, rfl, Or.inl rfl, ⟨fun q => (by cases q), fun q => absurd q.2.2 g3⟩⟩
        · rw [if_neg g2]; exact ⟨0, rfl, Or.inl rfl, ⟨fun q => (by cases q), fun q => absurd q.2.1 g2⟩⟩
      · rw [if_neg g1]; exact ⟨0, rfl, Or.inl rfl, ⟨fun q => (by cases q), fun q => absurd q.1 g1⟩⟩
    rcases hs with hs | hs
    · rw [if_neg (by omega)]
      obtain ⟨w, w1, w2, w3⟩ := three 0 7 32 40 48 (by omega) (by omega) (by omega)
      rw [show ((32 : Nat) : Int) = 32 from rfl, show ((40 : Nat) : Int) = 40 from rfl, show ((48 : Nat) : Int) = 48 from rfl] at w1
      rw [w1]
      refine ⟨w, rfl, w2, w3.trans ⟨fun q => Or.inr (Or.inr ⟨hs, q⟩), ?_⟩⟩
      rintro (q | q | q)
      · omega
      · omega
      · exact q.2
    · rw [if_pos hs]
      obtain ⟨w, w1, w2, w3⟩ := three 1 1 24 16 8 (by omega) (by omega) (by omega)
      rw [show ((24 : Nat) : Int) = 24 from rfl, show ((16 : Nat) : Int) = 16 from rfl, show ((8 : Nat) : Int) = 8 from rfl] at w1
      rw [w1]
      refine ⟨w, rfl, w2, w3.trans ⟨fun q => Or.inr (Or.inl ⟨hs, q⟩), ?_⟩⟩
      rintro (q | q | q)
      · omega
      · exact q.2
      · omega
  · rw [if_neg e]
    exact ⟨1, rfl, Or.inr rfl, ⟨fun _ => Or.inl (by omega), fun _ => rfl⟩⟩
theorem side_sub {s : Int} (h : s = 0 ∨ s = 1) : jsub 1 s = 1 - s ∧ (1 - s = 0 ∨ 1 - s = 1) := ⟨jsub_eq (by omega) (by omega), by omega⟩
theorem kgs_uk {b : Nat → Int} (h : Kgs b) {s : Int} (hs : s = 0 ∨ s = 1) : ∃ k, uk b s k := by
  rcases hs with e | e
  · subst e; exact h.1
  · subst e; exact h.2
theorem gdM (h : jH) {p : Nat} (hp : p < 304) (hB : BR (mb h p)) (hS : StR (h 26 p) (h 27 p) (h 28 p)) : ∃ v, f_M_isGood h (p : Int) = some v ∧ (v = 0 ∨ v = 1) ∧ (v = 1 ↔ Gd (mb h p) (h 26 p) (h 27 p) (h 28 p)) := by
  obtain ⟨s1, s2, s3, s4, s5⟩ := hS
  unfold f_M_isGood Gd
  obtain ⟨v, v1, v2, v3⟩ := hkM h hp hB
  obtain ⟨w, w1, w2, w3⟩ := arM h hp s2 s3
  obtain ⟨x, x1, x2, x3⟩ := ifM h hp s1 s4 s5
  rw [v1, w1, x1]
  simp only [Option.bind_some]
  have no : ∀ {P : Prop}, ¬ P → ∃ v : Int, some (0 : Int) = some v ∧ (v = 0 ∨ v = 1) ∧ (v = 1 ↔ P) := fun hP => ⟨0, rfl, Or.inl rfl, ⟨fun q => (by cases q), fun q => absurd q hP⟩⟩
  by_cases e1 : v = 0
  · rw [if_pos e1]; exact no (fun q => by have := v3.mpr ⟨q.1, q.2.1⟩; omega)
  · rw [if_neg e1]
    by_cases e2 : w = 0
    · rw [if_pos e2]; exact no (fun q => by have := w3.mpr q.2.2.1; omega)
    · rw [if_neg e2]
      by_cases e3 : x = 0
      · rw [if_pos e3]; exact no (fun q => by have := x3.mpr q.2.2.2.1; omega)
      · rw [if_neg e3, jgd_pos (by omega), Int.toNat_natCast, (side_sub s1).1]
        have hv := v3.mp (by omega)
        obtain ⟨k, hk⟩ := kgs_uk hv.1 (side_sub s1).2
        rw [ko_ok h hp hk]
        simp only [Option.bind_some]
        rw [jgd_pos (by omega)]
        obtain ⟨y, y1, y2, y3⟩ := ia_ok h hp hk.1 hB s1
        rw [y1]
        simp only [Option.bind_some]
        by_cases e4 : y = 0
        · rw [if_pos e4]
          refine ⟨1, rfl, Or.inr rfl, ⟨fun _ => ⟨hv.1, hv.2, w3.mp (by omega), x3.mp (by omega), fun k' hk' => ?_⟩, fun _ => rfl⟩⟩
          rw [uk_one hk' hk]
          intro q
          have := y3.mpr q
          omega
        · rw [if_neg e4]
          exact no (fun q => q.2.2.2.2 k hk (y3.mp (by omega)))
/- the class -/
theorem hkX (h : jH) (hB : BR (h 21)) : ∃ v, f_Bd_hasKingsAndPawnsRight h = some v ∧ (v = 0 ∨ v = 1) ∧ (v = 1 ↔ Kgs (h 21) ∧ pwn (h 21)) := by
  unfold f_Bd_hasKingsAndPawnsRight
  refine lp_ex (fun n (i : Nat) (s : Int × Int) => f_Bd_hasKingsAndPawnsRight_lp6 h (fun l16 l17 l18 => some (if l16 = 1 then if l17 = 1 then 1 else 0 else 0)) n s.1 s.2 (i : Int)) 64 (fun s => some (if s.1 = 1 then if s.2 = 1 then 1 else 0 else 0)) (fun o => ∃ v, o = some v ∧ (v = 0 ∨ v = 1) ∧ (v = 1 ↔ Kgs (h 21) ∧ pwn (h 21)))
    (fun i s => s.1 = ct (h 21) 6 i ∧ s.2 = ct (h 21) 12 i ∧ (∀ s, s < i → kd (h 21 s) = 1 → 8 ≤ s ∧ s < 56)) ?_ ?_ ?_ (0, 0) 1000 ⟨rfl, rfl, fun s hs => (by omega)⟩ (by omega)
  · intro n s hs
    show f_Bd_hasKingsAndPawnsRight_lp6 _ _ (n + 1) _ _ _ = _
    rw [f_Bd_hasKingsAndPawnsRight_lp6, if_pos (by omega)]
  · rintro n i ⟨x, y⟩ hi ⟨h1, h2, h3⟩
    show (∃ s', _ ∧ f_Bd_hasKingsAndPawnsRight_lp6 _ _ (n + 1) x y _ = f_Bd_hasKingsAndPawnsRight_lp6 _ _ n _ _ ((i + 1 : Nat) : Int)) ∨ (∃ v, f_Bd_hasKingsAndPawnsRight_lp6 _ _ (n + 1) x y _ = some v ∧ _)
    simp only at h1 h2 h3
    obtain ⟨b0, b1⟩ := hB i hi
    have r6 := ct_rng (h 21) 6 i
    have r12 := ct_rng (h 21) 12 i
    rw [f_Bd_hasKingsAndPawnsRight_lp6, if_neg (by omega), jgd_pos (by omega), Int.toNat_natCast, kd_ok h b0 b1]
    simp only [Option.bind_some]
    rw [jshr3 (by omega) (by omega)]
    have no : ¬ (kd (h 21 i) = 1 → 8 ≤ i ∧ i < 56) → ∃ v : Int, some (0 : Int) = some v ∧ (v = 0 ∨ v = 1) ∧ (v = 1 ↔ Kgs (h 21) ∧ pwn (h 21)) := fun hP => ⟨0, rfl, Or.inl rfl, ⟨fun q => (by cases q), fun q => absurd (q.2 i hi) hP⟩⟩
    have go : (kd (h 21 i) = 1 → 8 ≤ i ∧ i < 56) → ∃ s' : Int × Int, (s'.1 = ct (h 21) 6 (i + 1) ∧ s'.2 = ct (h 21) 12 (i + 1) ∧ (∀ s, s < i + 1 → kd (h 21 s) = 1 → 8 ≤ s ∧ s < 56)) ∧ f_Bd_hasKingsAndPawnsRight_j48_6 (f_Bd_hasKingsAndPawnsRight_lp6 h (fun l16 l17 l18 => some (if l16 = 1 then if l17 = 1 then 1 else 0 else 0)) n) (fun l16 l17 l18 => some (if l16 = 1 then if l17 = 1 then 1 else 0 else 0)) h x y (i : Int) (h 21 i) = f_Bd_hasKingsAndPawnsRight_lp6 h (fun l16 l17 l18 => some (if l16 = 1 then if l17 = 1 then 1 else 0 else 0)) n s'.1 s'.2 ((i + 1 : Nat) : Int) := by
      intro q
      refine ⟨(ct (h 21) 6 (i + 1), ct (h 21) 12 (i + 1)), ⟨rfl, rfl, all_lt_succ.mpr ⟨h3, q⟩⟩, ?_⟩
      unfold f_Bd_hasKingsAndPawnsRight_j48_6 f_Bd_hasKingsAndPawnsRight_j65_6
      rw [po_ok h (k := 6) (side := 0) (by omega) (by omega), po_ok h (k := 6) (side := 1) (by omega) (by omega), show (if (0 : Int) = 0 then (6 : Int) else 6 + 6) = 6 by decide, show (if (1 : Int) = 0 then (6 : Int) else 6 + 6) = 12 by decide]
      simp only [Option.bind_some]
      have e1 : jadd x (if h 21 i = 6 then 1 else 0) = ct (h 21) 6 (i + 1) := by
        conv => rhs; unfold ct
        rw [h1]; split
        · exact jadd_eq (by omega) (by omega)
        · exact jadd_eq (by omega) (by omega)
      have e2 : (if h 21 i = 12 then jadd y 1 else jadd y 0) = ct (h 21) 12 (i + 1) := by
        conv => rhs; unfold ct
        rw [h2]; split
        · exact jadd_eq (by omega) (by omega)
        · exact jadd_eq (by omega) (by omega)
      rw [e1, e2, jadd_eq (a := (i : Int)) (by omega) (by omega)]
      rfl
    by_cases k1 : kd (h 21 i) = 1
    · rw [if_pos k1]
      by_cases k2 : (i : Int) / 8 = 0
      · rw [if_pos k2]; right; exact no (fun q => by have := q k1; omega)
      · rw [if_neg k2]
        by_cases k3 : (i : Int) / 8 = 7
        · rw [if_pos k3]; right; exact no (fun q => by have := q k1; omega)
        · rw [if_neg k3]; left; exact go (fun _ => by omega)
    · rw [if_neg k1]; left; exact go (fun q => absurd q k1)
  · rintro ⟨x, y⟩ ⟨h1, h2, h3⟩
    simp only at h1 h2
    rw [kgs_ct, ← h1, ← h2]
    refine ⟨_, rfl, ?_, ?_⟩
    · show (if x = 1 then if y = 1 then (1 : Int) else 0 else 0) = 0 ∨ (if x = 1 then if y = 1 then (1 : Int) else 0 else 0) = 1
      split
      · split
        · exact Or.inr rfl
        · exact Or.inl rfl
      · exact Or.inl rfl
    · show (if x = 1 then if y = 1 then (1 : Int) else 0 else 0) = 1 ↔ _
      by_cases q1 : x = 1
      · rw [if_pos q1]
        by_cases q2 : y = 1
        · rw [if_pos q2]
          exact ⟨fun _ => ⟨⟨q1, q2⟩, h3⟩, fun _ => rfl⟩
        · rw [if_neg q2]
          exact ⟨fun q => (by cases q), fun q => absurd q.1.2 q2⟩
      · rw [if_neg q1]
        exact ⟨fun q => (by cases q), fun q => absurd q.1.1 q1⟩
