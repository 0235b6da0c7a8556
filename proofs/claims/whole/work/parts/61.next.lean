/-! the position behind a move; good positions stay good -/
def corB (s t : Nat) : Bool := (btw s t).all (fun y => decide (y ≠ 0) && decide (y ≠ 7) && decide (y ≠ 56) && decide (y ≠ 63))
theorem cor_tab : ∀ s : Nat, s < 64 → ∀ t : Nat, t < 64 → ((dfl s t = 0 ∨ drk s t = 0 ∨ dfl s t = drk s t) → corB s t = true) := by decide +kernel
theorem attR_sub2 {b b' : Nat → Int} {s t : Nat} (hs : s < 64) (ht : t < 64) (e : b' s = b s) (hc : ∀ y, y < 64 → y ≠ s → y ≠ t → (y ≠ 0 ∧ y ≠ 7 ∧ y ≠ 56 ∧ y ≠ 63) → b y = 0 → b' y = 0) (h : attR b s t) : attR b' s t := by
  have cl : (dfl s t = 0 ∨ drk s t = 0 ∨ dfl s t = drk s t) → clr b s t → clr b' s t := by
    intro ha q y hy
    obtain ⟨y1, y2, y3⟩ := btw_in hs ht ha hy
    have hcr := cor_tab s hs t ht ha
    unfold corB at hcr
    rw [List.all_eq_true] at hcr
    have := hcr y hy
    simp at this
    exact hc y y1 y2 y3 ⟨this.1.1.1, this.1.1.2, this.1.2, this.2⟩ (q y hy)
  unfold attR at *
  rw [e]
  rcases h with q | q | q | q | q | q
  · exact Or.inl q
  · exact Or.inr (Or.inl q)
  · exact Or.inr (Or.inr (Or.inl ⟨q.1, q.2.1, q.2.2.1, cl (by omega) q.2.2.2⟩))
  · exact Or.inr (Or.inr (Or.inr (Or.inl ⟨q.1, q.2.1, cl (by omega) q.2.2⟩)))
  · exact Or.inr (Or.inr (Or.inr (Or.inr (Or.inl ⟨q.1, q.2.1, cl (by omega) q.2.2⟩))))
  · exact Or.inr (Or.inr (Or.inr (Or.inr (Or.inr q))))
def csh (b : Nat → Int) (f x : Nat) : Prop := kd (b f) = 6 ∧ (x = f + 2 ∨ f = x + 2)
def nbs (b : Nat → Int) (side : Int) (f x c v : Nat) (y : Nat) : Int := if y = x then (if 0 < c then (c : Int) + 1 + 6 * side else b f) else if y = f then 0 else if y = v then 0 else b y
def nbv (b : Nat → Int) (side : Int) (f x c v : Nat) (y : Nat) : Int := if kd (b f) = 6 ∧ (x = f + 2 ∨ f = x + 2) then (if y = (f + x) / 2 then 4 + 6 * side else if y = crk f x then 0 else nbs b side f x c v y) else nbs b side f x c v y
def rto (s : Nat) : Int := if s = 0 then 2 else if s = 4 then 3 else if s = 7 then 1 else if s = 56 then 8 else if s = 60 then 12 else if s = 63 then 4 else 0
def nr (rights : Int) (f x : Nat) : Int := jand (jand rights (jxor (rto f) (-1))) (jxor (rto x) (-1))
def nf (b : Nat → Int) (f x : Nat) : Int := if kd (b f) = 1 ∧ (x = f + 16 ∨ f = x + 16) then ((f % 8 : Nat) : Int) else -1
def nct (b : Nat → Int) (f x : Nat) (count : Int) : Int := if kd (b f) = 1 ∨ b x ≠ 0 then 0 else count + 1
def G5 (b : Nat → Int) (side rights file : Int) : Prop := PosR b side rights file ∧ ∀ k, uk b (1 - side) k → ¬ atd b k side
theorem and_tab : ∀ r : Nat, r < 16 → ∀ a : Nat, a < 16 → (0 ≤ jand (r : Int) (jxor (a : Int) (-1)) ∧ jand (r : Int) (jxor (a : Int) (-1)) ≤ 15 ∧ ∀ i : Nat, i < 4 → (jand (r : Int) (jxor (a : Int) (-1)) / (2 ^ i : Nat) % 2 = 1 ↔ (r : Int) / (2 ^ i : Nat) % 2 = 1 ∧ ¬ (a : Int) / (2 ^ i : Nat) % 2 = 1)) := by decide +kernel
theorem rto_rng (s : Nat) : ∃ a : Nat, a < 16 ∧ rto s = (a : Int) := by
  unfold rto
  repeat' split
  · exact ⟨2, by omega, rfl⟩
  · exact ⟨3, by omega, rfl⟩
  · exact ⟨1, by omega, rfl⟩
  · exact ⟨8, by omega, rfl⟩
  · exact ⟨12, by omega, rfl⟩
  · exact ⟨4, by omega, rfl⟩
  · exact ⟨0, by omega, rfl⟩
theorem and_ok {r : Int} (h0 : 0 ≤ r) (h1 : r ≤ 15) (s : Nat) : 0 ≤ jand r (jxor (rto s) (-1)) ∧ jand r (jxor (rto s) (-1)) ≤ 15 ∧ ∀ i, i < 4 → (rbit (jand r (jxor (rto s) (-1))) i ↔ rbit r i ∧ ¬ rbit (rto s) i) := by
  obtain ⟨n, rfl⟩ : ∃ n : Nat, r = (n : Int) := ⟨r.toNat, by omega⟩
  obtain ⟨a, a1, a2⟩ := rto_rng s
  rw [a2]
  exact and_tab n (by omega) a a1
theorem nr_ok {r : Int} (h0 : 0 ≤ r) (h1 : r ≤ 15) (f x : Nat) : 0 ≤ nr r f x ∧ nr r f x ≤ 15 ∧ ∀ i, i < 4 → (rbit (nr r f x) i ↔ rbit r i ∧ ¬ rbit (rto f) i ∧ ¬ rbit (rto x) i) := by
  obtain ⟨a1, a2, a3⟩ := and_ok h0 h1 f
  obtain ⟨b1, b2, b3⟩ := and_ok a1 a2 x
  refine ⟨b1, b2, fun i hi => ?_⟩
  unfold nr
  rw [b3 i hi, a3 i hi, and_assoc]
theorem home_tab : ∀ s : Nat, s < 64 → ∀ i : Nat, i < 4 → ¬ rto s / (2 ^ i : Nat) % 2 = 1 → s ≠ hm i + 4 ∧ s ≠ hm i + (if i % 2 = 0 then 7 else 0) := by decide +kernel
theorem cas_mt {b : Nat → Int} {side rights file : Int} {f x : Nat} (hP : PosR b side rights file) (hf : f < 64) (h : cas b side rights f x) : (f = 4 ∨ f = 60) ∧ f = kh side ∧ (x = f + 2 ∨ f = x + 2) ∧ b x = 0 ∧ b ((f + x) / 2) = 0 ∧ b f = kp side ∧ b (crk f x) = 4 + 6 * side := by
  obtain ⟨hB, ⟨hS, hr0, hr1, hf0, hf1⟩, hK, hpw, hrg, hfl⟩ := hP
  obtain ⟨c1, c2, c3, c4, c5, c6⟩ := h
  have hk : f = 4 ∨ f = 60 := by rw [c1]; unfold kh; split <;> omega
  obtain ⟨bt1, bt2⟩ := cas_btw f hk
  refine ⟨hk, c1, c2, ?_, ?_, ?_⟩
  · apply c4; unfold crk
    rcases c2 with q | q
    · rw [if_neg (by omega)]; exact (bt1 x).mpr (by omega)
    · rw [if_pos (by omega)]; exact (bt2 x).mpr (by omega)
  · apply c4; unfold crk
    rcases c2 with q | q
    · rw [if_neg (by omega)]; exact (bt1 _).mpr (by omega)
    · rw [if_pos (by omega)]; exact (bt2 _).mpr (by omega)
  · have hw : ∃ w, w < 2 ∧ cbit side f x = 2 * side.toNat + w ∧ crk f x = rh side (w : Int) := by
      unfold cbit crk
      rw [c1]
      rcases c2 with q | q
      · refine ⟨0, by omega, ?_, ?_⟩
        · rw [if_neg (show ¬ x ≤ kh side by omega)]
          rcases hS with g | g <;> subst g <;> rfl
        · rw [if_neg (show ¬ x ≤ kh side by omega)]
          rcases hS with g | g <;> subst g <;> rfl
      · refine ⟨1, by omega, ?_, ?_⟩
        · rw [if_pos (show x ≤ kh side by omega)]
          rcases hS with g | g <;> subst g <;> rfl
        · rw [if_pos (show x ≤ kh side by omega)]
          rcases hS with g | g <;> subst g <;> rfl
    obtain ⟨w, w1, w2, w3⟩ := hw
    rw [w2] at c3
    obtain ⟨k1, k2⟩ := rgt_king hS hrg w1 c3
    refine ⟨by rw [c1]; exact k1, ?_⟩
    rw [w3, k2]
    rcases hS with g | g <;> subst g <;> rfl
theorem csh_cas {b : Nat → Int} {side rights file : Int} {f x : Nat} {c : Int} (hf : f < 64) (hx : x < 64) (hm : mgo b side rights file f x c) (hs : csh b f x) : cas b side rights f x := by
  obtain ⟨-, -, hm⟩ := hm
  obtain ⟨h6, hd⟩ := hs
  rcases hm with q | ⟨_, _, q | q⟩
  · omega
  · exfalso
    rcases q with q | q | q | q | q | q
    · omega
    · omega
    · omega
    · omega
    · omega
    · have h1 := iab_cases ((x : Int) % 8 - (f : Int) % 8)
      have h2 := iab_cases ((x : Int) / 8 - (f : Int) / 8)
      have q1 := q.2.1
      have q2 := q.2.2.1
      unfold dfl at q1
      unfold drk at q2
      omega
  · exact q.2
/-- what stands where behind a move -/
theorem nbv_cases {b : Nat → Int} {side : Int} {f x c v : Nat} (y : Nat) (hfx : f ≠ x) (hcs : csh b f x → (f = 4 ∨ f = 60)) :
    (y = x ∧ nbv b side f x c v y = (if 0 < c then (c : Int) + 1 + 6 * side else b f)) ∨ (y = f ∧ nbv b side f x c v y = 0) ∨ (y = v ∧ y ≠ x ∧ y ≠ f ∧ nbv b side f x c v y = 0) ∨ (csh b f x ∧ y = (f + x) / 2 ∧ nbv b side f x c v y = 4 + 6 * side) ∨ (csh b f x ∧ y = crk f x ∧ y ≠ f ∧ y ≠ x ∧ nbv b side f x c v y = 0) ∨
    (y ≠ x ∧ y ≠ f ∧ y ≠ v ∧ (csh b f x → y ≠ (f + x) / 2 ∧ y ≠ crk f x) ∧ nbv b side f x c v y = b y) := by
  have base : (csh b f x → y ≠ (f + x) / 2 ∧ y ≠ crk f x) → nbv b side f x c v y = nbs b side f x c v y → ((y = x ∧ nbv b side f x c v y = (if 0 < c then (c : Int) + 1 + 6 * side else b f)) ∨ (y = f ∧ nbv b side f x c v y = 0) ∨ (y = v ∧ y ≠ x ∧ y ≠ f ∧ nbv b side f x c v y = 0) ∨ (csh b f x ∧ y = (f + x) / 2 ∧ nbv b side f x c v y = 4 + 6 * side) ∨ (csh b f x ∧ y = crk f x ∧ y ≠ f ∧ y ≠ x ∧ nbv b side f x c v y = 0) ∨
    (y ≠ x ∧ y ≠ f ∧ y ≠ v ∧ (csh b f x → y ≠ (f + x) / 2 ∧ y ≠ crk f x) ∧ nbv b side f x c v y = b y)) := by
    intro hn e
    rw [e]
    unfold nbs
    by_cases d1 : y = x
    · rw [if_pos d1]; exact Or.inl ⟨d1, rfl⟩
    · rw [if_neg d1]
      by_cases d2 : y = f
      · rw [if_pos d2]; exact Or.inr (Or.inl ⟨d2, rfl⟩)
      · rw [if_neg d2]
        by_cases d3 : y = v
        · rw [if_pos d3]; exact Or.inr (Or.inr (Or.inl ⟨d3, d1, d2, rfl⟩))
        · rw [if_neg d3]; exact Or.inr (Or.inr (Or.inr (Or.inr (Or.inr ⟨d1, d2, d3, hn, rfl⟩))))
  by_cases cs : kd (b f) = 6 ∧ (x = f + 2 ∨ f = x + 2)
  · have h4 := hcs cs
    have hcr : crk f x ≠ f ∧ crk f x ≠ x := by unfold crk; split <;> omega
    by_cases d1 : y = (f + x) / 2
    · refine Or.inr (Or.inr (Or.inr (Or.inl ⟨cs, d1, ?_⟩)))
      unfold nbv; rw [if_pos cs, if_pos d1]
    · by_cases d2 : y = crk f x
      · refine Or.inr (Or.inr (Or.inr (Or.inr (Or.inl ⟨cs, d2, by omega, by omega, ?_⟩))))
        unfold nbv; rw [if_pos cs, if_neg d1, if_pos d2]
      · apply base (fun _ => ⟨d1, d2⟩)
        unfold nbv; rw [if_pos cs, if_neg d1, if_neg d2]
  · apply base (fun q => absurd q cs)
    unfold nbv; rw [if_neg cs]
