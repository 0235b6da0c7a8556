/-! the class's table of moves: knights, rows, a piece -/
theorem alp_ok (t : Nat) (h0 : jH) {s : Nat} (ht : 11 ≤ t) (hs : s < 64) : Adds t h0 (fun h => f_Mt_addLeaps t h (s : Int)) (fun f x c => f = s ∧ c = 0 ∧ sd (h0 3 x) ≠ h0 2 1 ∧ ∃ d, d < 8 ∧ shf (s : Int) (KF d) (KR d) = (x : Int)) := by
  intro h Q hT
  show ∃ h', f_Mt_addLeaps t h (s : Int) = some h' ∧ _
  unfold f_Mt_addLeaps
  obtain ⟨-, -, len3, len4⟩ := jxc_len
  obtain ⟨h', g1, g2⟩ := lp_all (fun n (i : Nat) (g : jH) => f_Mt_addLeaps_lp2 t (s : Int) (fun l6 h7 => some h7) n (i : Int) g) 8 (fun g => some g)
    (fun i g => Tb t h0 g (fun f x c => Q f x c ∨ (f = s ∧ c = 0 ∧ sd (h0 3 x) ≠ h0 2 1 ∧ ∃ d, d < i ∧ shf (s : Int) (KF d) (KR d) = (x : Int)))) (by
      intro n g _
      show f_Mt_addLeaps_lp2 _ _ _ (n + 1) _ g = _
      rw [f_Mt_addLeaps_lp2, if_pos (by omega)]) (by
      intro n i g hi hg
      show ∃ s', _ ∧ f_Mt_addLeaps_lp2 _ _ _ (n + 1) _ g = f_Mt_addLeaps_lp2 _ _ _ n ((i + 1 : Nat) : Int) s'
      have e2 : g 2 = h0 2 := hg.1 2 (by omega) (by omega)
      have e3 : g 3 = h0 3 := hg.1 3 (by omega) (by omega)
      obtain ⟨-, -, -, -, b5, b6, b7, b8⟩ := FS_b i hi
      rw [f_Mt_addLeaps_lp2, if_neg (by omega), jgd_pos (by omega), jgd_pos (by omega), Int.toNat_natCast, show (jxc.getD 3 []).getD i 0 = KF i from rfl, show (jxc.getD 4 []).getD i 0 = KR i from rfl, shf_ok g (by omega) (by omega) (by omega) (by omega) (by omega) (by omega)]
      simp only [obs]
      rw [jadd_eq (a := (i : Int)) (by omega) (by omega), show (i : Int) + 1 = ((i + 1 : Nat) : Int) by omega]
      rcases shf_rng (s : Int) (KF i) (KR i) with c | c
      · rw [c, if_pos rfl]
        refine ⟨g, Tb_congr (fun f x c' _ _ _ => ?_) hg, rfl⟩
        rw [ex_lt_succ, c]
        constructor
        · rintro (q | ⟨q1, q2, q3, q4⟩)
          · exact Or.inl q
          · exact Or.inr ⟨q1, q2, q3, Or.inl q4⟩
        · rintro (q | ⟨q1, q2, q3, q4 | q4⟩)
          · exact Or.inl q
          · exact Or.inr ⟨q1, q2, q3, q4⟩
          · omega
      · obtain ⟨x, hx⟩ : ∃ x : Nat, shf (s : Int) (KF i) (KR i) = (x : Int) := ⟨(shf (s : Int) (KF i) (KR i)).toNat, by omega⟩
        have hx64 : x < 64 := by omega
        rw [hx, if_neg (by omega), jgd_pos (by omega), jgd_pos (by omega), jgd_pos (by omega), Int.toNat_natCast, sd_ok, e3, e2]
        simp only [obs]
        by_cases cs : sd (h0 3 x) = h0 2 1
        · rw [if_pos cs]
          refine ⟨g, Tb_congr (fun f z c' _ _ _ => ?_) hg, rfl⟩
          rw [ex_lt_succ, hx]
          constructor
          · rintro (q | ⟨q1, q2, q3, q4⟩)
            · exact Or.inl q
            · exact Or.inr ⟨q1, q2, q3, Or.inl q4⟩
          · rintro (q | ⟨q1, q2, q3, q4 | q4⟩)
            · exact Or.inl q
            · exact Or.inr ⟨q1, q2, q3, q4⟩
            · exact absurd (show sd (h0 3 z) = h0 2 1 by rw [show z = x by omega]; exact cs) q3
        · rw [if_neg cs]
          refine ⟨_, Tb_congr (fun f z c' _ _ _ => ?_) (Tb_add hg (c := 0) (by omega) hx64 hs), rfl⟩
          rw [ex_lt_succ, hx]
          constructor
          · rintro ((q | ⟨q1, q2, q3, q4⟩) | ⟨q1, q2, q3⟩)
            · exact Or.inl q
            · exact Or.inr ⟨q1, q2, q3, Or.inl q4⟩
            · exact Or.inr ⟨q1, q3, by rw [q2]; exact cs, Or.inr (by rw [q2])⟩
          · rintro (q | ⟨q1, q2, q3, q4 | q4⟩)
            · exact Or.inl (Or.inl q)
            · exact Or.inl (Or.inr ⟨q1, q2, q3, q4⟩)
            · exact Or.inr ⟨q1, by omega, q2⟩) h 1000 (Tb_congr (fun f x c _ _ _ => ⟨Or.inl, by
        rintro (q | q)
        · exact q
        · obtain ⟨d, d1, _⟩ := q.2.2.2; omega⟩) hT) (by omega)
  exact ⟨h', g2, g1⟩
/-- along a row: up to the first man, that too if it isn't one's own -/
def sld (b : Nat → Int) (side : Int) : List Nat → List Nat
  | [] => []
  | x :: l => if sd (b x) = side then [] else if b x = 0 then x :: sld b side l else [x]
theorem sld_mem (b : Nat → Int) {side : Int} (hS : side = 0 ∨ side = 1) : ∀ (l : List Nat) (x : Nat), x ∈ sld b side l ↔ ∃ i, l[i]? = some x ∧ (∀ y ∈ l.take i, b y = 0) ∧ sd (b x) ≠ side := by
  intro l
  induction l with
  | nil => intro x; unfold sld; simp
  | cons a l ih =>
    intro x
    unfold sld
    by_cases c1 : sd (b a) = side
    · rw [if_pos c1]
      constructor
      · intro q; cases q
      · rintro ⟨i, h1, h2, h3⟩
        exfalso
        cases i with
        | zero =>
          have e : a = x := by simpa using h1
          exact h3 (e ▸ c1)
        | succ i =>
          have h4 : b a = 0 := h2 a (by simp)
          rw [h4] at c1
          have : sd 0 = -1 := by decide
          omega
    · rw [if_neg c1]
      by_cases c2 : b a = 0
      · rw [if_pos c2, List.mem_cons, ih]
        constructor
        · rintro (q | ⟨i, h1, h2, h3⟩)
          · refine ⟨0, by rw [q]; rfl, by simp, by rw [q]; exact c1⟩
          · refine ⟨i + 1, by simpa using h1, ?_, h3⟩
            intro y hy
            rw [List.take_succ_cons, List.mem_cons] at hy
            rcases hy with e | e
            · rw [e]; exact c2
            · exact h2 y e
        · rintro ⟨i, h1, h2, h3⟩
          cases i with
          | zero => left; have e : a = x := by simpa using h1
                    exact e.symm
          | succ i =>
            right
            refine ⟨i, by simpa using h1, fun y hy => h2 y ?_, h3⟩
            rw [List.take_succ_cons, List.mem_cons]
            exact Or.inr hy
      · rw [if_neg c2, List.mem_singleton]
        constructor
        · intro q; exact ⟨0, by rw [q]; rfl, by simp, by rw [q]; exact c1⟩
        · rintro ⟨i, h1, h2, h3⟩
          cases i with
          | zero => have e : a = x := by simpa using h1
                    exact e.symm
          | succ i => exact absurd (h2 a (by simp)) c2
theorem ala_lp (t : Nat) (h0 : jH) {s d : Nat} (ht : 11 ≤ t) (hs : s < 64) (hd : d < 8) (reach : Int) (hr : reach ≤ 7) : ∀ (m n cur : Nat) (stp : Int) (h : jH) (Q : Nat → Nat → Nat → Prop), cur < 64 → 1 ≤ stp → stp + m = reach + 1 → m < n → Tb t h0 h Q →
    ∃ h', f_Mt_addAlong_lp6 t (s : Int) (d : Int) reach (fun l9 l10 h11 => some h11) n (cur : Int) stp h = some h' ∧ Tb t h0 h' (fun f x c => Q f x c ∨ (f = s ∧ c = 0 ∧ x ∈ sld (h0 3) (h0 2 1) (rayF m (shf (cur : Int) (FS d) (RS d)) d))) := by
  obtain ⟨b1, b2, b3, b4, -⟩ := FS_b d hd
  obtain ⟨len1, len2, -, -⟩ := jxc_len
  intro m
  induction m with
  | zero =>
    intro n cur stp h Q hc h1 hm hn hT
    obtain ⟨n', rfl⟩ : ∃ n', n = n' + 1 := ⟨n - 1, by omega⟩
    rw [f_Mt_addAlong_lp6, if_pos (by omega)]
    refine ⟨h, rfl, Tb_congr (fun f x c _ _ _ => ⟨Or.inl, ?_⟩) hT⟩
    rintro (q | q)
    · exact q
    · have := q.2.2; unfold rayF sld at this; cases this
  | succ m ih =>
    intro n cur stp h Q hc h1 hm hn hT
    obtain ⟨n', rfl⟩ : ∃ n', n = n' + 1 := ⟨n - 1, by omega⟩
    have e2 : h 2 = h0 2 := hT.1 2 (by omega) (by omega)
    have e3 : h 3 = h0 3 := hT.1 3 (by omega) (by omega)
    rw [f_Mt_addAlong_lp6, if_neg (by omega), jgd_pos (by omega), jgd_pos (by omega), Int.toNat_natCast, show (jxc.getD 1 []).getD d 0 = FS d from rfl, show (jxc.getD 2 []).getD d 0 = RS d from rfl, shf_ok h (by omega) (by omega) (by omega) (by omega) (by omega) (by omega)]
    simp only [obs]
    rcases shf_rng (cur : Int) (FS d) (RS d) with c | c
    · rw [c, if_pos rfl]
      refine ⟨h, rfl, Tb_congr (fun f x c _ _ _ => ⟨Or.inl, ?_⟩) hT⟩
      rintro (q | q)
      · exact q
      · have := q.2.2; unfold rayF at this; rw [if_pos rfl] at this; unfold sld at this; cases this
    · obtain ⟨x, hx⟩ : ∃ x : Nat, shf (cur : Int) (FS d) (RS d) = (x : Int) := ⟨(shf (cur : Int) (FS d) (RS d)).toNat, by omega⟩
      have hx64 : x < 64 := by omega
      have er : rayF (m + 1) (x : Int) d = x :: rayF m (shf (x : Int) (FS d) (RS d)) d := by
        conv => lhs; unfold rayF
        rw [if_neg (by omega), Int.toNat_natCast]
      rw [hx, if_neg (by omega), jgd_pos (by omega), jgd_pos (by omega), jgd_pos (by omega), jgd_pos (by omega), Int.toNat_natCast, sd_ok, e3, e2]
      simp only [obs]
      rw [er]
      by_cases cs : sd (h0 3 x) = h0 2 1
      · rw [if_pos cs]
        refine ⟨h, rfl, Tb_congr (fun f z c _ _ _ => ⟨Or.inl, ?_⟩) hT⟩
        rintro (q | q)
        · exact q
        · have := q.2.2; unfold sld at this; rw [if_pos cs] at this; cases this
      · rw [if_neg cs, jup_n _ _ _ (show 3 ≠ t + 1 by omega), e3, jadd_eq (by omega) (by omega)]
        have hT' := Tb_add hT (c := 0) (by omega) hx64 hs
        by_cases ce : h0 3 x = 0
        · rw [if_pos ce]
          obtain ⟨h', g1, g2⟩ := ih n' x (stp + 1) _ _ hx64 (by omega) (by omega) (by omega) hT'
          refine ⟨h', g1, Tb_congr (fun f z c _ _ _ => ?_) g2⟩
          conv => rhs; unfold sld
          rw [if_neg cs, if_pos ce, List.mem_cons, or_assoc]
          constructor
          · rintro (q | ⟨q1, q2, q3⟩ | ⟨q1, q2, q3⟩)
            · exact Or.inl q
            · exact Or.inr ⟨q1, q3, Or.inl q2⟩
            · exact Or.inr ⟨q1, q2, Or.inr q3⟩
          · rintro (q | ⟨q1, q2, q3 | q3⟩)
            · exact Or.inl q
            · exact Or.inr (Or.inl ⟨q1, q3, q2⟩)
            · exact Or.inr (Or.inr ⟨q1, q2, q3⟩)
        · rw [if_neg ce]
          refine ⟨_, rfl, Tb_congr (fun f z c _ _ _ => ?_) hT'⟩
          conv => rhs; unfold sld
          rw [if_neg cs, if_neg ce, List.mem_singleton]
          constructor
          · rintro (q | ⟨q1, q2, q3⟩)
            · exact Or.inl q
            · exact Or.inr ⟨q1, q3, q2⟩
          · rintro (q | ⟨q1, q2, q3⟩)
            · exact Or.inl q
            · exact Or.inr ⟨q1, q3, q2⟩
theorem rayF_take (d : Nat) : ∀ (m k : Nat) (s : Int), m ≤ k → rayF m s d = (rayF k s d).take m := by
  intro m
  induction m with
  | zero => intro k s _; rw [List.take_zero]; rfl
  | succ m ih =>
    intro k s hk
    obtain ⟨k', rfl⟩ : ∃ k', k = k' + 1 := ⟨k - 1, by omega⟩
    unfold rayF
    by_cases c : s = -1
    · rw [if_pos c, if_pos c, List.take_nil]
    · rw [if_neg c, if_neg c, List.take_succ_cons, ih k' _ (by omega)]
/-- whether a row's man goes from s to x -/
def rw1 (b : Nat → Int) (side : Int) (s x d : Nat) : Prop := ∃ i : Nat, (ray s d)[i]? = some x ∧ (i : Int) + 1 ≤ rch (kd (b s)) d ∧ (∀ y ∈ (ray s d).take i, b y = 0) ∧ sd (b x) ≠ side
theorem rch_rng (k : Int) (d : Nat) : 0 ≤ rch k d ∧ rch k d ≤ 7 := by
  unfold rch
  split
  · omega
  · split
    · omega
    · split
      · omega
      · split <;> omega
theorem ala_ok (t : Nat) (h0 : jH) {s d : Nat} (ht : 11 ≤ t) (hs : s < 64) (hd : d < 8) (hS : h0 2 1 = 0 ∨ h0 2 1 = 1) : Adds t h0 (fun h => f_Mt_addAlong t h (s : Int) (d : Int) (rch (kd (h0 3 s)) d)) (fun f x c => f = s ∧ c = 0 ∧ rw1 (h0 3) (h0 2 1) s x d) := by
  intro h Q hT
  obtain ⟨r0, r1⟩ := rch_rng (kd (h0 3 s)) d
  obtain ⟨h', g1, g2⟩ := ala_lp t h0 ht hs hd (rch (kd (h0 3 s)) d) r1 (rch (kd (h0 3 s)) d).toNat 1000 s 1 h Q hs (by omega) (by omega) (by omega) hT
  refine ⟨h', g1, Tb_congr (fun f x c _ _ _ => ?_) g2⟩
  have key : x ∈ sld (h0 3) (h0 2 1) (rayF (rch (kd (h0 3 s)) d).toNat (shf (s : Int) (FS d) (RS d)) d) ↔ rw1 (h0 3) (h0 2 1) s x d := by
    rw [sld_mem _ hS, rayF_take d _ 7 _ (by omega)]
    unfold rw1 ray
    constructor
    · rintro ⟨i, i1, i2, i3⟩
      rw [List.getElem?_take] at i1
      by_cases c : i < (rch (kd (h0 3 s)) d).toNat
      · rw [if_pos c] at i1
        refine ⟨i, i1, by omega, fun y hy => i2 y ?_, i3⟩
        rw [List.take_take, Nat.min_eq_left (by omega)]; exact hy
      · rw [if_neg c] at i1; cases i1
    · rintro ⟨i, i1, i2, i3, i4⟩
      refine ⟨i, ?_, fun y hy => i3 y ?_, i4⟩
      · rw [List.getElem?_take, if_pos (by omega)]; exact i1
      · rw [List.take_take, Nat.min_eq_left (by omega)] at hy; exact hy
  rw [key]
/-- a piece's moves, castling apart, as the class finds them -/
def pmv (h0 : jH) (s x c : Nat) : Prop :=
  (kd (h0 3 s) = 1 ∧ c = pcl x ∧ ((stp1 (h0 3) (h0 2 1) s x ∨ stp2 (h0 3) (h0 2 1) s x) ∨ (tkA h0 s (-1) x ∨ tkA h0 s 1 x))) ∨
  (kd (h0 3 s) = 2 ∧ c = 0 ∧ sd (h0 3 x) ≠ h0 2 1 ∧ ∃ d, d < 8 ∧ shf (s : Int) (KF d) (KR d) = (x : Int)) ∨
  (kd (h0 3 s) ≠ 1 ∧ kd (h0 3 s) ≠ 2 ∧ c = 0 ∧ ∃ d, d < 8 ∧ rw1 (h0 3) (h0 2 1) s x d)
theorem apc_ok (t : Nat) (h0 : jH) {s : Nat} (ht : 11 ≤ t) (hs : s < 64) (hP : PosR (h0 3) (h0 2 1) (h0 2 2) (h0 2 3)) : Adds t h0 (fun h => f_Mt_addPiece t h (s : Int)) (fun f x c => f = s ∧ pmv h0 s x c) := by
  obtain ⟨hB, ⟨hS, hr0, hr1, hf0, hf1⟩, hK, hpw, hrg, hfl⟩ := hP
  obtain ⟨b0, b1⟩ := hB s hs
  intro h Q hT
  have e2 : h 2 = h0 2 := hT.1 2 (by omega) (by omega)
  have e3 : h 3 = h0 3 := hT.1 3 (by omega) (by omega)
  show ∃ h', f_Mt_addPiece t h (s : Int) = some h' ∧ _
  unfold f_Mt_addPiece pmv
  rw [jgd_pos (by omega), Int.toNat_natCast, e3, kd_ok h b0 b1]
  simp only [obs]
  by_cases c1 : kd (h0 3 s) = 1
  · rw [if_pos c1]
    obtain ⟨h', g1, g2⟩ := ast_ok t h0 ht hS (hpw s hs c1) h Q hT
    rw [show f_Mt_addSteps t h (s : Int) = some h' from g1]
    simp only [obs]
    obtain ⟨h'', k1, k2⟩ := atk_ok t h0 ht hS hf0 hf1 hs h' _ g2
    rw [show f_Mt_addTakes t h' (s : Int) = some h'' from k1]
    simp only [obs]
    refine ⟨h'', rfl, Tb_congr (fun f x c _ _ _ => ?_) k2⟩
    constructor
    · rintro ((q | ⟨q1, q2, q3⟩) | ⟨q1, q2, q3⟩)
      · exact Or.inl q
      · exact Or.inr ⟨q1, Or.inl ⟨c1, q2, Or.inl q3⟩⟩
      · exact Or.inr ⟨q1, Or.inl ⟨c1, q2, Or.inr q3⟩⟩
    · rintro (q | ⟨q1, ⟨q2, q3, q4 | q4⟩ | ⟨q2, _⟩ | ⟨q2, _⟩⟩)
      · exact Or.inl (Or.inl q)
      · exact Or.inl (Or.inr ⟨q1, q3, q4⟩)
      · exact Or.inr ⟨q1, q3, q4⟩
      · omega
      · exact absurd c1 q2
  · rw [if_neg c1]
    by_cases c2 : kd (h0 3 s) = 2
    · rw [if_pos c2]
      obtain ⟨h', g1, g2⟩ := alp_ok t h0 ht hs h Q hT
      rw [show f_Mt_addLeaps t h (s : Int) = some h' from g1]
      simp only [obs]
      refine ⟨h', rfl, Tb_congr (fun f x c _ _ _ => ?_) g2⟩
      constructor
      · rintro (q | ⟨q1, q2⟩)
        · exact Or.inl q
        · exact Or.inr ⟨q1, Or.inr (Or.inl ⟨c2, q2⟩)⟩
      · rintro (q | ⟨q1, ⟨q2, _⟩ | ⟨q2, q3⟩ | ⟨_, q2, _⟩⟩)
        · exact Or.inl q
        · exact absurd q2 c1
        · exact Or.inr ⟨q1, q3⟩
        · exact absurd c2 q2
    · rw [if_neg c2]
      obtain ⟨h', g1, g2⟩ := lp_all (fun n (i : Nat) (g : jH) => f_Mt_addPiece_lp47 t (s : Int) (kd (h0 3 s)) (fun l8 h9 => some h9) n (i : Int) g) 8 (fun g => some g)
        (fun i g => Tb t h0 g (fun f x c => Q f x c ∨ (f = s ∧ c = 0 ∧ ∃ d, d < i ∧ rw1 (h0 3) (h0 2 1) s x d))) (by
          intro n g _
          show f_Mt_addPiece_lp47 _ _ _ _ (n + 1) _ g = _
          rw [f_Mt_addPiece_lp47, if_pos (by omega)]) (by
          intro n i g hi hg
          show ∃ s', _ ∧ f_Mt_addPiece_lp47 _ _ _ _ (n + 1) _ g = f_Mt_addPiece_lp47 _ _ _ _ n ((i + 1 : Nat) : Int) s'
          obtain ⟨g', k1, k2⟩ := ala_ok t h0 ht hs hi hS g _ hg
          rw [f_Mt_addPiece_lp47, if_neg (by omega), rch_ok g _ hi]
          simp only [obs]
          rw [show f_Mt_addAlong t g (s : Int) (i : Int) (rch (kd (h0 3 s)) i) = some g' from k1]
          simp only [obs]
          rw [jadd_eq (a := (i : Int)) (by omega) (by omega)]
          refine ⟨g', Tb_congr (fun f x c _ _ _ => ?_) k2, rfl⟩
          rw [ex_lt_succ]
          constructor
          · rintro ((q | ⟨q1, q2, q3⟩) | ⟨q1, q2, q3⟩)
            · exact Or.inl q
            · exact Or.inr ⟨q1, q2, Or.inl q3⟩
            · exact Or.inr ⟨q1, q2, Or.inr q3⟩
          · rintro (q | ⟨q1, q2, q3 | q3⟩)
            · exact Or.inl (Or.inl q)
            · exact Or.inl (Or.inr ⟨q1, q2, q3⟩)
            · exact Or.inr ⟨q1, q2, q3⟩) h 1000 (Tb_congr (fun f x c _ _ _ => ⟨Or.inl, by
            rintro (q | ⟨_, _, d, d1, _⟩)
            · exact q
            · omega⟩) hT) (by omega)
      refine ⟨h', g2, Tb_congr (fun f x c _ _ _ => ?_) g1⟩
      constructor
      · rintro (q | ⟨q1, q2, q3⟩)
        · exact Or.inl q
        · exact Or.inr ⟨q1, Or.inr (Or.inr ⟨c1, c2, q2, q3⟩)⟩
      · rintro (q | ⟨q1, ⟨q2, _⟩ | ⟨q2, _⟩ | ⟨_, _, q2, q3⟩⟩)
        · exact Or.inl q
        · exact absurd q2 c1
        · exact absurd q2 c2
        · exact Or.inr ⟨q1, q2, q3⟩
