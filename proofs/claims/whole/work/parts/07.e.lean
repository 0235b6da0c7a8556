theorem jlg {E : jE} (args : List jV) : (lg_sl (args.map (tv E))).length = (args.map fun v => if v.1 = 1 then 2 else 1).sum := by
  induction args with
  | nil => rfl
  | cons v l ih =>
    have hc : (tv E v).category = if v.1 = 1 then 2 else 1 := by
      by_cases hv : v.1 = 1
      · rw [if_pos hv]
        have h2 := jcat (E := E) v
        rw [hv] at h2
        simpa using h2
      · rw [if_neg hv]
        exact jcat1 hv
    have e : lg_sl ((v :: l).map (tv E)) = (if (tv E v).category = 2 then [Slot.val (tv E v), Slot.second] else [Slot.val (tv E v)]) ++ lg_sl (l.map (tv E)) := rfl
    rw [e, List.length_append, ih, List.map_cons, List.sum_cons, hc]
    by_cases hv : v.1 = 1
    · rw [if_pos hv, if_pos rfl]; rfl
    · rw [if_neg hv, if_neg (by decide)]; rfl
theorem jxc_ok (x j : Nat) : ok32 ((jxc.getD x []).getD j 0) := by
  have h1 : ∀ l ∈ jxc, ∀ v ∈ l, -2147483648 ≤ v ∧ v < 2147483648 := by decide
  rw [List.getD_eq_getElem?_getD (l := jxc.getD x [])]
  cases hl : (jxc.getD x [])[j]? with
  | none => exact ok32_0
  | some v =>
    have hm := List.mem_of_getElem? hl
    rw [List.getD_eq_getElem?_getD] at hm
    cases hx : jxc[x]? with
    | none => rw [hx] at hm; cases hm
    | some l =>
      rw [hx] at hm
      exact h1 l (List.mem_of_getElem? hx) v hm
