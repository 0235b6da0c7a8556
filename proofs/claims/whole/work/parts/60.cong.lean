/-! boards that agree on the squares -/
def EqB (b b' : Nat → Int) : Prop := ∀ y, y < 64 → b y = b' y
theorem EqB_sym {b b' : Nat → Int} (h : EqB b b') : EqB b' b := fun y hy => (h y hy).symm
theorem attR_c1 {b b' : Nat → Int} (h : EqB b b') {s t : Nat} (hs : s < 64) (ht : t < 64) (q : attR b s t) : attR b' s t :=
  attR_sub hs ht (h s hs).symm (fun y hy _ _ z => by rw [← h y hy]; exact z) q
theorem attR_c {b b' : Nat → Int} (h : EqB b b') {s t : Nat} (hs : s < 64) (ht : t < 64) : attR b s t ↔ attR b' s t := ⟨attR_c1 h hs ht, attR_c1 (EqB_sym h) hs ht⟩
theorem BR_c {b b' : Nat → Int} (h : EqB b b') (hB : BR b) : BR b' := fun s hs => by rw [← h s hs]; exact hB s hs
theorem atd_c {b b' : Nat → Int} (h : EqB b b') (hB : BR b) {t : Nat} (ht : t < 64) {side : Int} (hS : side = 0 ∨ side = 1) : atd b t side ↔ atd b' t side := by
  rw [atd_iff hB ht hS, atd_iff (BR_c h hB) ht hS]
  constructor
  · rintro ⟨s, s1, s2, s3⟩; exact ⟨s, s1, by rw [← h s s1]; exact s2, (attR_c h s1 ht).mp s3⟩
  · rintro ⟨s, s1, s2, s3⟩; exact ⟨s, s1, by rw [h s s1]; exact s2, (attR_c h s1 ht).mpr s3⟩
theorem uk_c1 {b b' : Nat → Int} (h : EqB b b') {side : Int} {k : Nat} (q : uk b side k) : uk b' side k := ⟨q.1, by rw [← h k q.1]; exact q.2.1, fun s hs z => q.2.2 s hs (by rw [h s hs]; exact z)⟩
theorem uk_c {b b' : Nat → Int} (h : EqB b b') {side : Int} {k : Nat} : uk b side k ↔ uk b' side k := ⟨uk_c1 h, uk_c1 (EqB_sym h)⟩
theorem beh_c {b b' : Nat → Int} (h : EqB b b') {side file : Int} {s t : Nat} (hs : s < 64) (ht : t < 64) : beh b side file s t ↔ beh b' side file s t := by
  unfold beh
  rw [h s hs, attR_c h hs ht]
theorem mvb_c {b b' : Nat → Int} (h : EqB b b') {s t v : Nat} (hs : s < 64) : EqB (mvb b s t v) (mvb b' s t v) := by
  intro y hy
  unfold mvb
  rw [h s hs, h y hy]
theorem safe_c1 {b b' : Nat → Int} (h : EqB b b') (hB : BR b) {side file : Int} (hS : side = 0 ∨ side = 1) {s t : Nat} (hs : s < 64) (ht : t < 64) (q : safe b side file s t) : safe b' side file s t := by
  intro k v hk hv
  have hk' := (uk_c h).mpr hk
  have hv' : vicR b side file s t v := by unfold vicR at *; rw [beh_c h hs ht]; exact hv
  have := q k v hk' hv'
  rw [atd_c (mvb_c h hs) (BR_mv hB hs) (by unfold kmv; split; exact ht; exact hk.1) (side_sub hS).2] at this
  exact this
theorem cas_c1 {b b' : Nat → Int} (h : EqB b b') (hB : BR b) {side rights : Int} (hS : side = 0 ∨ side = 1) {s t : Nat} (hs : s < 64) (ht : t < 64) (q : cas b side rights s t) : cas b' side rights s t := by
  obtain ⟨c1, c2, c3, c4, c5, c6⟩ := q
  have hk : s = 4 ∨ s = 60 := by rw [c1]; unfold kh; split <;> omega
  refine ⟨c1, c2, c3, ?_, ?_, ?_⟩
  · intro y hy
    have hy64 : y < 64 := by
      obtain ⟨b1, b2⟩ := cas_btw s hk
      unfold crk at hy
      split at hy
      · have := (b2 y).mp hy; omega
      · have := (b1 y).mp hy; omega
    rw [← h y hy64]; exact c4 y hy
  · rw [← atd_c h hB hs (side_sub hS).2]; exact c5
  · rw [← atd_c h hB (by omega) (side_sub hS).2]; exact c6
theorem PosR_c {b b' : Nat → Int} (h : EqB b b') {side rights file : Int} (hP : PosR b side rights file) : PosR b' side rights file := by
  obtain ⟨hB, hSt, ⟨k1, k2⟩, hpw, hrg, hfl⟩ := hP
  refine ⟨BR_c h hB, hSt, ⟨?_, ?_⟩, ?_, ?_, ?_⟩
  · obtain ⟨k, hk⟩ := k1; exact ⟨k, uk_c1 h hk⟩
  · obtain ⟨k, hk⟩ := k2; exact ⟨k, uk_c1 h hk⟩
  · intro s hs q; rw [← h s hs] at q; exact hpw s hs q
  · intro i hi q
    have := hrg i hi q
    unfold rk1 hm at *
    rw [← h _ (by split <;> omega), ← h _ (by split <;> split <;> omega)]
    exact this
  · obtain ⟨hS, _, _, f0, f1⟩ := hSt
    unfold fil at *
    rcases hfl with q | q | q
    · exact Or.inl q
    · by_cases c : file < 0
      · exact Or.inl c
      · refine Or.inr (Or.inl ?_); rw [← h _ (by omega), ← h _ (by omega), ← h _ (by omega)]; exact q
    · by_cases c : file < 0
      · exact Or.inl c
      · refine Or.inr (Or.inr ?_); rw [← h _ (by omega), ← h _ (by omega), ← h _ (by omega)]; exact q
theorem lgl_c1 {b b' : Nat → Int} (h : EqB b b') {side rights file : Int} (hP : PosR b side rights file) {s t : Nat} (hs : s < 64) (ht : t < 64) {c : Int} (q : lgl b side rights file s t c) : lgl b' side rights file s t c := by
  obtain ⟨⟨q1, q2, q3⟩, q4⟩ := q
  have hS := hP.2.1.1
  have ea := attR_c h hs ht
  refine ⟨⟨by rw [← h s hs]; exact q1, by rw [← h t ht]; exact q2, ?_⟩, safe_c1 h hP.1 hS hs ht q4⟩
  rw [← h s hs]
  rcases q3 with ⟨z1, z2, z3⟩ | ⟨z1, z2, z3⟩
  · refine Or.inl ⟨z1, z2, ?_⟩
    rw [← ea, ← h t ht, ← beh_c h hs ht]
    rcases z3 with z3 | ⟨z3, z4 | z4⟩
    · exact Or.inl z3
    · exact Or.inr ⟨z3, Or.inl ⟨z4.1, by rw [← h t ht]; exact z4.2⟩⟩
    · refine Or.inr ⟨z3, Or.inr ⟨z4.1, z4.2.1, by rw [← h t ht]; exact z4.2.2.1, ?_⟩⟩
      rw [← h _ ?_]
      · exact z4.2.2.2
      · have := z4.1
        unfold ahd
        split <;> omega
  · refine Or.inr ⟨z1, z2, ?_⟩
    rw [← ea]
    rcases z3 with z3 | z3
    · exact Or.inl z3
    · exact Or.inr ⟨z3.1, cas_c1 h hP.1 hS hs ht z3.2⟩
theorem lgl_c {b b' : Nat → Int} (h : EqB b b') {side rights file : Int} (hP : PosR b side rights file) {s t : Nat} (hs : s < 64) (ht : t < 64) {c : Int} : lgl b side rights file s t c ↔ lgl b' side rights file s t c :=
  ⟨lgl_c1 h hP hs ht, lgl_c1 (EqB_sym h) (PosR_c h hP) hs ht⟩
theorem nm_c {L M : Nat → Nat → Nat → Prop} (h : ∀ f x c, f < 64 → x < 64 → (L f x c ↔ M f x c)) : nm L = nm M := by
  unfold nm
  exact sm_congr 64 (fun x hx => sm_congr 64 (fun f hf => by rw [ind_c (h f x 0 hf hx), ind_c (h f x 1 hf hx)]))
theorem lgc_c {L M : Nat → Nat → Nat → Prop} (h : ∀ f x c, f < 64 → x < 64 → (L f x c ↔ M f x c)) (c : Nat) : lgc L c ↔ lgc M c := h _ _ _ (by omega) (by omega)
theorem cc_c {L M : Nat → Nat → Nat → Prop} (h : ∀ f x c, f < 64 → x < 64 → (L f x c ↔ M f x c)) (n : Nat) : cc L n = cc M n := sm_congr n (fun c _ => ind_c (lgc_c h c))
theorem cdS_c {L M : Nat → Nat → Nat → Prop} (h : ∀ f x c, f < 64 → x < 64 → (L f x c ↔ M f x c)) {i : Nat} {v : Int} (q : cdS L i v) : cdS M i v := by
  unfold cdS at *
  rw [cc_c h] at q
  rcases q with ⟨c, c1, c2, c3, c4⟩ | q
  · exact Or.inl ⟨c, c1, (lgc_c h c).mp c2, by rw [← cc_c h]; exact c3, c4⟩
  · exact Or.inr q
