/-! one attack, two ways to tell it -/
theorem fst1_iff (b : Nat → Int) : ∀ (l : List Nat) (s : Nat), fst1 b l = (s : Int) ↔ ∃ i, l[i]? = some s ∧ b s ≠ 0 ∧ ∀ x ∈ l.take i, b x = 0 := by
  intro l
  induction l with
  | nil =>
    intro s
    constructor
    · intro z; unfold fst1 at z; omega
    · rintro ⟨i, z, -⟩; simp at z
  | cons y l ih =>
    intro s
    unfold fst1
    by_cases hb : b y = 0
    · rw [if_pos hb, ih]
      constructor
      · rintro ⟨i, z1, z2, z3⟩
        refine ⟨i + 1, by simpa using z1, z2, fun x hx => ?_⟩
        rw [List.take_succ_cons] at hx
        rcases List.mem_cons.mp hx with rfl | hx
        · exact hb
        · exact z3 x hx
      · rintro ⟨i, z1, z2, z3⟩
        cases i with
        | zero => simp at z1; subst z1; exact absurd hb z2
        | succ i =>
          refine ⟨i, by simpa using z1, z2, fun x hx => z3 x ?_⟩
          rw [List.take_succ_cons]
          exact List.mem_cons_of_mem _ hx
    · rw [if_neg hb]
      constructor
      · intro z
        have : y = s := by omega
        subst this
        exact ⟨0, rfl, hb, fun x hx => by simp at hx⟩
      · rintro ⟨i, z1, z2, z3⟩
        cases i with
        | zero => simp at z1; subst z1; rfl
        | succ i =>
          have := z3 y (by rw [List.take_succ_cons]; exact List.mem_cons_self)
          exact absurd this hb
/-- the table of rays: what lies between, how far it is -/
def geoB (t d i s : Nat) : Bool := (btw s t).all (fun x => ((ray t d).take i).contains x) && ((ray t d).take i).all (fun x => (btw s t).contains x) && (if d % 2 = 0 then (decide (dfl s t = 0) && decide (drk s t = (i : Int) + 1)) || (decide (dfl s t = (i : Int) + 1) && decide (drk s t = 0)) else decide (dfl s t = (i : Int) + 1) && decide (drk s t = (i : Int) + 1))
theorem geo_tab : ∀ t, t < 64 → ∀ d, d < 8 → ∀ i, i < 7 → (match (ray t d)[i]? with | some s => geoB t d i s | none => true) = true := by decide +kernel
theorem ray_len : ∀ t, t < 64 → ∀ d, d < 8 → (ray t d).length ≤ 7 := by decide +kernel
theorem geo_at {t d i s : Nat} (ht : t < 64) (hd : d < 8) (hi : (ray t d)[i]? = some s) : (∀ x, x ∈ btw s t ↔ x ∈ (ray t d).take i) ∧ ((d % 2 = 0 ∧ ((dfl s t = 0 ∧ drk s t = (i : Int) + 1) ∨ (dfl s t = (i : Int) + 1 ∧ drk s t = 0))) ∨ (d % 2 = 1 ∧ dfl s t = (i : Int) + 1 ∧ drk s t = (i : Int) + 1)) := by
  have hl := ray_len t ht d hd
  have hi7 : i < 7 := by have := (List.getElem?_eq_some_iff.mp hi).1; omega
  have h := geo_tab t ht d hd i hi7
  rw [hi] at h
  simp only [geoB, Bool.and_eq_true, List.all_eq_true, List.contains_iff_mem] at h
  obtain ⟨⟨h1, h2⟩, h3⟩ := h
  refine ⟨fun x => ⟨fun z => h1 x z, fun z => h2 x z⟩, ?_⟩
  rcases Nat.mod_two_eq_zero_or_one d with e | e
  · left
    rw [if_pos e] at h3
    simp only [Bool.or_eq_true, Bool.and_eq_true, decide_eq_true_eq] at h3
    exact ⟨e, h3⟩
  · right
    rw [if_neg (by omega)] at h3
    simp only [Bool.and_eq_true, decide_eq_true_eq] at h3
    exact ⟨e, h3⟩
def onT (t s : Nat) : Bool := (if (decide (dfl s t = 0) != decide (drk s t = 0)) = true then (List.range 8).any (fun d => d % 2 == 0 && (ray t d).contains s) else true) && (if dfl s t = drk s t ∧ 0 < dfl s t then (List.range 8).any (fun d => d % 2 == 1 && (ray t d).contains s) else true)
theorem on_tab : ∀ t : Nat, t < 64 → ∀ s : Nat, s < 64 → onT t s = true := by decide +kernel
theorem on_ray (t : Nat) (ht : t < 64) (s : Nat) (hs : s < 64) : ((dfl s t = 0 ↔ drk s t ≠ 0) → ∃ d, d < 8 ∧ d % 2 = 0 ∧ s ∈ ray t d) ∧ ((dfl s t = drk s t ∧ 0 < dfl s t) → ∃ d, d < 8 ∧ d % 2 = 1 ∧ s ∈ ray t d) := by
  have h := on_tab t ht s hs
  unfold onT at h
  rw [Bool.and_eq_true] at h
  constructor
  · intro z
    have h1 := h.1
    rw [if_pos (by by_cases q1 : dfl s t = 0 <;> by_cases q2 : drk s t = 0 <;> simp_all)] at h1
    obtain ⟨d, hd, q⟩ := List.any_eq_true.mp h1
    simp only [Bool.and_eq_true, beq_iff_eq, List.contains_iff_mem] at q
    exact ⟨d, List.mem_range.mp hd, q.1, q.2⟩
  · intro z
    have h1 := h.2
    rw [if_pos z] at h1
    obtain ⟨d, hd, q⟩ := List.any_eq_true.mp h1
    simp only [Bool.and_eq_true, beq_iff_eq, List.contains_iff_mem] at q
    exact ⟨d, List.mem_range.mp hd, q.1, q.2⟩
theorem leap_tab : ∀ t : Nat, t < 64 → ∀ s : Nat, s < 64 → (dfl s t * drk s t = 2 ↔ ∃ d, d < 8 ∧ shf (t : Int) (KF d) (KR d) = (s : Int)) := by decide +kernel
theorem iab_sym (x y : Int) : iab (x - y) = iab (y - x) := by
  have h1 := iab_cases (x - y)
  have h2 := iab_cases (y - x)
  omega
/-- the class's attack is the reference's -/
theorem atk_iff {b : Nat → Int} {t s : Nat} {side : Int} (hB : BR b) (ht : t < 64) (hs : s < 64) (hsd : side = 0 ∨ side = 1) : atk b t side s ↔ sd (b s) = side ∧ attR b s t := by
  obtain ⟨b0, b1⟩ := hB s hs
  have e1 : iab ((s : Int) % 8 - (t : Int) % 8) = dfl s t := iab_sym _ _
  have hf0 : 0 ≤ dfl s t := iab_rng _
  have hr0 : 0 ≤ drk s t := iab_rng _
  constructor
  · rintro ⟨d, hd, h | ⟨h1, h2⟩⟩
    · obtain ⟨h1, h2, h3⟩ := h
      refine ⟨h2, ?_⟩
      obtain ⟨i, g1, g2, g3⟩ := (fst1_iff b _ s).mp h1
      obtain ⟨k1, k2⟩ := geo_at ht hd g1
      have hclr : clr b s t := fun x hx => g3 x ((k1 x).mp hx)
      unfold agn at h3
      rw [e1] at h3
      change if kd (b s) = 1 then dfl s t = 1 ∧ _ else dfl s t ≤ _ ∧ drk s t ≤ _ at h3
      unfold attR
      rcases kd_cases b0 b1 with k | k | k | k | k | k | k
      · exfalso
        unfold kd at k
        split at k
        · exact g2 k
        · omega
      · rw [if_pos k] at h3
        refine Or.inl ⟨k, h3.1, ?_⟩
        rw [h3.2]
        unfold kd at k
        split at k
        · rename_i h6; rw [if_pos h6, if_pos k]
        · rename_i h6; rw [if_neg h6, if_neg (by omega)]
      · exfalso
        rw [if_neg (by omega), k] at h3
        simp [rch] at h3
        omega
      · rw [if_neg (by omega), k] at h3
        rcases k2 with ⟨q, k2⟩ | ⟨q, k2⟩
        · exfalso
          simp [rch, q] at h3
          omega
        · exact Or.inr (Or.inr (Or.inl ⟨k, by omega, by omega, hclr⟩))
      · rw [if_neg (by omega), k] at h3
        rcases k2 with ⟨q, k2⟩ | ⟨q, k2⟩
        · exact Or.inr (Or.inr (Or.inr (Or.inl ⟨k, by omega, hclr⟩)))
        · exfalso
          simp [rch, q] at h3
          omega
      · refine Or.inr (Or.inr (Or.inr (Or.inr (Or.inl ⟨k, ?_, hclr⟩))))
        rcases k2 with ⟨q, k2⟩ | ⟨q, k2⟩
        · left; omega
        · right; omega
      · rw [if_neg (by omega), k] at h3
        simp [rch] at h3
        refine Or.inr (Or.inr (Or.inr (Or.inr (Or.inr ⟨k, h3.1, h3.2, ?_⟩))))
        rcases k2 with ⟨q, k2⟩ | ⟨q, k2⟩ <;> omega
    · have hk : kd (b s) = 2 := by
        rw [h2]
        rcases hsd with rfl | rfl <;> decide
      refine ⟨?_, Or.inr (Or.inl ⟨hk, (leap_tab t ht s hs).mpr ⟨d, hd, h1⟩⟩)⟩
      rw [h2]
      rcases hsd with rfl | rfl <;> decide
  · rintro ⟨h2, h⟩
    -- a man on a ray, nothing between
    have onray : ∀ d, d < 8 → s ∈ ray t d → b s ≠ 0 → (∀ i, (ray t d)[i]? = some s → (∀ x ∈ (ray t d).take i, b x = 0) ∧ agn (b s) s t d) → atk b t side s := by
      intro d hd hm hb hh
      obtain ⟨i, hi⟩ := List.getElem?_of_mem hm
      obtain ⟨q1, q2⟩ := hh i hi
      exact ⟨d, hd, Or.inl ⟨(fst1_iff b _ s).mpr ⟨i, hi, hb, q1⟩, h2, q2⟩⟩
    have hb : b s ≠ 0 := by
      intro z
      rw [z] at h2
      unfold sd at h2
      rw [if_pos rfl] at h2
      omega
    have near : dfl s t ≤ 1 → drk s t ≤ 1 → 0 < dfl s t + drk s t → agn (b s) s t 0 ∧ agn (b s) s t 1 ∨ True := fun _ _ _ => Or.inr trivial
    rcases h with ⟨k, q1, q2⟩ | ⟨k, q1⟩ | ⟨k, q1, q2, q3⟩ | ⟨k, q1, q2⟩ | ⟨k, q1, q2⟩ | ⟨k, q1, q2, q3⟩
    · -- a pawn
      have hr1 : drk s t = 1 := by
        unfold drk
        rw [q2]
        split <;> decide
      obtain ⟨d, hd, hd2, hm⟩ := (on_ray t ht s hs).2 ⟨by omega, by omega⟩
      refine onray d hd hm hb (fun i hi => ?_)
      obtain ⟨k1, k2⟩ := geo_at ht hd hi
      have hi0 : i = 0 := by rcases k2 with ⟨q, -⟩ | ⟨-, k2, -⟩ <;> omega
      subst hi0
      refine ⟨fun x hx => by simp at hx, ?_⟩
      unfold agn
      rw [if_pos k, e1]
      refine ⟨q1, ?_⟩
      rw [q2]
      unfold kd at k
      split at k
      · rename_i h6; rw [if_pos h6, if_pos k]
      · rename_i h6; rw [if_neg h6, if_neg (by omega)]
    · -- a knight
      obtain ⟨d, hd, hq⟩ := (leap_tab t ht s hs).mp q1
      refine ⟨d, hd, Or.inr ⟨hq, ?_⟩⟩
      unfold kd at k
      unfold sd at h2
      rw [if_neg hb] at h2
      split at k
      · rename_i h6; rw [if_pos h6] at h2; rw [← h2, if_pos rfl]; exact k
      · rename_i h6; rw [if_neg h6] at h2; rw [← h2, if_neg (by decide)]; omega
    · obtain ⟨d, hd, hd2, hm⟩ := (on_ray t ht s hs).2 ⟨q1, q2⟩
      refine onray d hd hm hb (fun i hi => ?_)
      obtain ⟨k1, k2⟩ := geo_at ht hd hi
      refine ⟨fun x hx => q3 x ((k1 x).mpr hx), ?_⟩
      have hl := ray_len t ht d hd
      have hi7 : i < 7 := by have := (List.getElem?_eq_some_iff.mp hi).1; omega
      unfold agn
      rw [if_neg (by omega), e1, k]
      show dfl s t ≤ _ ∧ drk s t ≤ _
      simp [rch, hd2]
      rcases k2 with ⟨q, -⟩ | ⟨-, k2, k3⟩ <;> omega
    · obtain ⟨d, hd, hd2, hm⟩ := (on_ray t ht s hs).1 q1
      refine onray d hd hm hb (fun i hi => ?_)
      obtain ⟨k1, k2⟩ := geo_at ht hd hi
      refine ⟨fun x hx => q2 x ((k1 x).mpr hx), ?_⟩
      have hl := ray_len t ht d hd
      have hi7 : i < 7 := by have := (List.getElem?_eq_some_iff.mp hi).1; omega
      unfold agn
      rw [if_neg (by omega), e1, k]
      show dfl s t ≤ _ ∧ drk s t ≤ _
      simp [rch, hd2]
      rcases k2 with ⟨-, k2⟩ | ⟨q, -⟩ <;> omega
    · have : ∃ d, d < 8 ∧ s ∈ ray t d := by
        rcases q1 with q1 | q1
        · obtain ⟨d, hd, -, hm⟩ := (on_ray t ht s hs).1 q1; exact ⟨d, hd, hm⟩
        · obtain ⟨d, hd, -, hm⟩ := (on_ray t ht s hs).2 q1; exact ⟨d, hd, hm⟩
      obtain ⟨d, hd, hm⟩ := this
      refine onray d hd hm hb (fun i hi => ?_)
      obtain ⟨k1, k2⟩ := geo_at ht hd hi
      refine ⟨fun x hx => q2 x ((k1 x).mpr hx), ?_⟩
      have hl := ray_len t ht d hd
      have hi7 : i < 7 := by have := (List.getElem?_eq_some_iff.mp hi).1; omega
      unfold agn
      rw [if_neg (by omega), e1, k]
      show dfl s t ≤ _ ∧ drk s t ≤ _
      simp [rch]
      rcases k2 with ⟨-, k2⟩ | ⟨q, k2⟩ <;> omega
    · have : ∃ d, d < 8 ∧ s ∈ ray t d := by
        by_cases hz : dfl s t = drk s t
        · obtain ⟨d, hd, -, hm⟩ := (on_ray t ht s hs).2 ⟨hz, by omega⟩; exact ⟨d, hd, hm⟩
        · obtain ⟨d, hd, -, hm⟩ := (on_ray t ht s hs).1 (by omega); exact ⟨d, hd, hm⟩
      obtain ⟨d, hd, hm⟩ := this
      refine onray d hd hm hb (fun i hi => ?_)
      obtain ⟨k1, k2⟩ := geo_at ht hd hi
      have hi0 : i = 0 := by rcases k2 with ⟨-, k2⟩ | ⟨-, k2, -⟩ <;> omega
      subst hi0
      refine ⟨fun x hx => by simp at hx, ?_⟩
      unfold agn
      rw [if_neg (by omega), e1, k]
      show dfl s t ≤ _ ∧ drk s t ≤ _
      simp [rch]
      exact ⟨q1, q2⟩
