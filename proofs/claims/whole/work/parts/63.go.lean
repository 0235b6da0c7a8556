/-! the reference: copying a position, going on -/
def FrR (h h' : jH) (q : Nat) : Prop := (∀ a, a ≠ 25 → a ≠ 26 → a ≠ 27 → a ≠ 28 → a ≠ 29 → h' a = h a) ∧ ∀ r, r ≠ q → (∀ y, y < 64 → mb h' r y = mb h r y) ∧ h' 26 r = h 26 r ∧ h' 27 r = h 27 r ∧ h' 28 r = h 28 r ∧ h' 29 r = h 29 r
theorem FrR_trans {h g k : jH} {q : Nat} (h1 : FrR h g q) (h2 : FrR g k q) : FrR h k q :=
  ⟨fun a a1 a2 a3 a4 a5 => (h2.1 a a1 a2 a3 a4 a5).trans (h1.1 a a1 a2 a3 a4 a5), fun r hr => ⟨fun y hy => ((h2.2 r hr).1 y hy).trans ((h1.2 r hr).1 y hy), (h2.2 r hr).2.1.trans (h1.2 r hr).2.1, (h2.2 r hr).2.2.1.trans (h1.2 r hr).2.2.1, (h2.2 r hr).2.2.2.1.trans (h1.2 r hr).2.2.2.1, (h2.2 r hr).2.2.2.2.trans (h1.2 r hr).2.2.2.2⟩⟩
theorem mb_up (h : jH) {q s r y : Nat} (v : Int) (hs : s < 64) (hy : y < 64) : mb (jup h 25 (64 * q + s) v) r y = if r = q ∧ y = s then v else mb h r y := by
  unfold mb
  rw [jup_s]
  by_cases c : r = q ∧ y = s
  · rw [if_pos c, if_pos (by rw [c.1, c.2])]
  · rw [if_neg c, if_neg (by omega)]
theorem mb_o (h : jH) {a : Nat} (k : Nat) (v : Int) (ha : a ≠ 25) (r : Nat) : mb (jup h a k v) r = mb h r := by
  unfold mb
  rw [jup_n _ _ _ (Ne.symm ha)]
theorem cp_ok (h : jH) {p q : Nat} (hp : p < 304) (hq : q < 304) (hB : BR (mb h p)) : ∃ h', f_M_copy h (p : Int) (q : Int) = some h' ∧ FrR h h' q ∧ EqB (mb h' q) (mb h p) ∧ h' 26 q = h 26 p ∧ h' 27 q = h 27 p ∧ h' 28 q = h 28 p ∧ h' 29 q = h 29 p := by
  unfold f_M_copy
  obtain ⟨g, ⟨g1, g2⟩, g3⟩ := lp_all (fun n (i : Nat) (g : jH) => f_M_copy_lp2 (p : Int) (q : Int) (fun l5 h6 => jgd (0 ≤ (p : Int) ∧ (p : Int) < 304) (jgd (0 ≤ (q : Int) ∧ (q : Int) < 304) (jgd (0 ≤ (p : Int) ∧ (p : Int) < 304) (jgd (0 ≤ (q : Int) ∧ (q : Int) < 304) (jgd (0 ≤ (p : Int) ∧ (p : Int) < 304) (jgd (0 ≤ (q : Int) ∧ (q : Int) < 304) (jgd (0 ≤ (p : Int) ∧ (p : Int) < 304) (jgd (0 ≤ (q : Int) ∧ (q : Int) < 304) (some (jup (jup (jup (jup h6 26 (q : Int).toNat (h6 26 (p : Int).toNat)) 27 (q : Int).toNat ((jup h6 26 (q : Int).toNat (h6 26 (p : Int).toNat)) 27 (p : Int).toNat)) 28 (q : Int).toNat ((jup (jup h6 26 (q : Int).toNat (h6 26 (p : Int).toNat)) 27 (q : Int).toNat ((jup h6 26 (q : Int).toNat (h6 26 (p : Int).toNat)) 27 (p : Int).toNat)) 28 (p : Int).toNat)) 29 (q : Int).toNat ((jup (jup (jup h6 26 (q : Int).toNat (h6 26 (p : Int).toNat)) 27 (q : Int).toNat ((jup h6 26 (q : Int).toNat (h6 26 (p : Int).toNat)) 27 (p : Int).toNat)) 28 (q : Int).toNat ((jup (jup h6 26 (q : Int).toNat (h6 26 (p : Int).toNat)) 27 (q : Int).toNat ((jup h6 26 (q : Int).toNat (h6 26 (p : Int).toNat)) 27 (p : Int).toNat)) 28 (p : Int).toNat)) 29 (p : Int).toNat))))))))))) n (i : Int) g) 64 (fun g => some (jup (jup (jup (jup g 26 q (g 26 p)) 27 q (g 27 p)) 28 q (g 28 p)) 29 q (g 29 p)))
    (fun i g => (∀ a, a ≠ 25 → g a = h a) ∧ ∀ r y, y < 64 → mb g r y = if r = q ∧ y < i then mb h p y else mb h r y) (by
      intro n g _
      show f_M_copy_lp2 _ _ _ (n + 1) _ g = _
      rw [f_M_copy_lp2, if_pos (by omega), jgd_pos (by omega), jgd_pos (by omega), jgd_pos (by omega), jgd_pos (by omega), jgd_pos (by omega), jgd_pos (by omega), jgd_pos (by omega), jgd_pos (by omega), Int.toNat_natCast, Int.toNat_natCast]
      simp only [jup_n _ _ _ (show (27 : Nat) ≠ 26 by decide), jup_n _ _ _ (show (28 : Nat) ≠ 26 by decide), jup_n _ _ _ (show (28 : Nat) ≠ 27 by decide), jup_n _ _ _ (show (29 : Nat) ≠ 26 by decide), jup_n _ _ _ (show (29 : Nat) ≠ 27 by decide), jup_n _ _ _ (show (29 : Nat) ≠ 28 by decide)]) (by
      rintro n i g hi ⟨h1, h2⟩
      show ∃ s', _ ∧ f_M_copy_lp2 _ _ _ (n + 1) _ g = f_M_copy_lp2 _ _ _ n ((i + 1 : Nat) : Int) s'
      have e : g 25 (64 * p + i) = mb h p i := by
        have := h2 p i hi
        unfold mb at this ⊢
        rw [this]; split <;> rfl
      obtain ⟨b0, b1⟩ := hB i hi
      rw [f_M_copy_lp2, if_neg (by omega), jmul_eq (by omega) (by omega), jmul_eq (by omega) (by omega), jadd_eq (a := 64 * (p : Int)) (by omega) (by omega), jadd_eq (a := 64 * (q : Int)) (by omega) (by omega), show (64 * (p : Int) + (i : Int)).toNat = 64 * p + i by omega, show (64 * (q : Int) + (i : Int)).toNat = 64 * q + i by omega, e, jgd_pos (by omega), jgd_pos (by omega), jadd_eq (by omega) (by omega)]
      refine ⟨_, ⟨fun a ha => by rw [jup_n _ _ _ ha]; exact h1 a ha, fun r y hy => ?_⟩, rfl⟩
      rw [mb_up g _ hi hy, h2 r y hy]
      by_cases c1 : r = q ∧ y = i
      · rw [if_pos c1, if_pos (by omega), c1.2]
      · rw [if_neg c1]
        by_cases c2 : r = q ∧ y < i
        · rw [if_pos c2, if_pos (by omega)]
        · rw [if_neg c2, if_neg (by omega)]) h 1000 ⟨fun _ _ => rfl, fun r y _ => by rw [if_neg (by omega)]⟩ (by omega)
  refine ⟨_, g3, ⟨fun a a1 a2 a3 a4 a5 => ?_, fun r hr => ⟨fun y hy => ?_, ?_, ?_, ?_, ?_⟩⟩, fun y hy => ?_, ?_, ?_, ?_, ?_⟩
  · rw [jup_n _ _ _ a5, jup_n _ _ _ a4, jup_n _ _ _ a3, jup_n _ _ _ a2]; exact g1 a a1
  · rw [mb_o _ _ _ (by decide), mb_o _ _ _ (by decide), mb_o _ _ _ (by decide), mb_o _ _ _ (by decide), g2 r y hy, if_neg (fun z => hr z.1)]
  · rw [jup_n _ _ _ (by decide), jup_n _ _ _ (by decide), jup_n _ _ _ (by decide), jup_sn _ _ _ hr, g1 26 (by decide)]
  · rw [jup_n _ _ _ (by decide), jup_n _ _ _ (by decide), jup_sn _ _ _ hr, jup_n _ _ _ (by decide), g1 27 (by decide)]
  · rw [jup_n _ _ _ (by decide), jup_sn _ _ _ hr, jup_n _ _ _ (by decide), jup_n _ _ _ (by decide), g1 28 (by decide)]
  · rw [jup_sn _ _ _ hr, jup_n _ _ _ (by decide), jup_n _ _ _ (by decide), jup_n _ _ _ (by decide), g1 29 (by decide)]
  · rw [mb_o _ _ _ (by decide), mb_o _ _ _ (by decide), mb_o _ _ _ (by decide), mb_o _ _ _ (by decide), g2 q y hy, if_pos ⟨rfl, hy⟩]
  · rw [jup_n _ _ _ (by decide), jup_n _ _ _ (by decide), jup_n _ _ _ (by decide), jup_ss, g1 26 (by decide)]
  · rw [jup_n _ _ _ (by decide), jup_n _ _ _ (by decide), jup_ss, g1 27 (by decide)]
  · rw [jup_n _ _ _ (by decide), jup_ss, g1 28 (by decide)]
  · rw [jup_ss, g1 29 (by decide)]
theorem rto_ok (h : jH) (s : Nat) : f_M_rightsOf h (s : Int) = some (rto s) := by
  unfold f_M_rightsOf rto
  have e : ∀ k : Nat, ((s : Int) = (k : Int)) ↔ s = k := fun k => by omega
  have e0 := e 0
  have e4 := e 4
  have e7 := e 7
  have e56 := e 56
  have e60 := e 60
  have e63 := e 63
  simp only [Int.ofNat_eq_natCast, Int.cast_ofNat_Int] at e0 e4 e7 e56 e60 e63
  simp only [show ((s : Int) = 0) ↔ s = 0 by omega, show ((s : Int) = 4) ↔ s = 4 by omega, show ((s : Int) = 7) ↔ s = 7 by omega, show ((s : Int) = 56) ↔ s = 56 by omega, show ((s : Int) = 60) ↔ s = 60 by omega, show ((s : Int) = 63) ↔ s = 63 by omega]
theorem g187_ok (g : jH) {p f x : Nat} {side pw tk : Int} (hp : p + 1 < 304) (hf : f < 64) (hx : x < 64) (hS : side = 0 ∨ side = 1) (hpw : pw = 0 ∨ pw = 1) (htk : tk = 0 ∨ tk = 1) (hc : 0 ≤ g 29 p ∧ g 29 p < 100000) :
    f_M_go_j187 g (p : Int) (f : Int) (x : Int) ((p + 1 : Nat) : Int) side pw tk = some (jup (jup (jup (jup g 26 (p + 1) (1 - side)) 27 (p + 1) (nr (g 27 p) f x)) 28 (p + 1) (if pw = 1 ∧ (x = f + 16 ∨ f = x + 16) then ((f % 8 : Nat) : Int) else -1)) 29 (p + 1) (if pw = 1 ∨ tk = 1 then 0 else g 29 p + 1)) := by
  unfold f_M_go_j187 f_M_go_j254 f_M_go_j255 f_M_go_j272 f_M_go_j284
  rw [jgd_pos (show (0 : Int) ≤ ((p + 1 : Nat) : Int) ∧ ((p + 1 : Nat) : Int) < 304 by omega), jgd_pos (show (0 : Int) ≤ (p : Int) ∧ (p : Int) < 304 by omega), Int.toNat_natCast, Int.toNat_natCast, rto_ok, rto_ok, (side_sub hS).1]
  simp only [obs]
  rw [jgd_pos (show (0 : Int) ≤ ((p + 1 : Nat) : Int) ∧ ((p + 1 : Nat) : Int) < 304 by omega), jup_n _ _ _ (show (27 : Nat) ≠ 26 by decide), show jand (jand (g 27 p) (jxor (rto f) (-1))) (jxor (rto x) (-1)) = nr (g 27 p) f x from rfl]
  have e29 : ∀ F : Int, (jup (jup (jup g 26 (p + 1) (1 - side)) 27 (p + 1) (nr (g 27 p) f x)) 28 (p + 1) F) 29 p = g 29 p := by
    intro F
    rw [jup_n _ _ _ (by decide), jup_n _ _ _ (by decide), jup_n _ _ _ (by decide)]
  simp only [e29]
  rw [jadd_eq (by omega) (by omega)]
  have fin : ∀ F : Int, (jgd (0 ≤ ((p + 1 : Nat) : Int) ∧ ((p + 1 : Nat) : Int) < 304) (if pw = 0 then if tk = 0 then jgd (0 ≤ (p : Int) ∧ (p : Int) < 304) (jgd (0 ≤ ((p + 1 : Nat) : Int) ∧ ((p + 1 : Nat) : Int) < 304) (some (jup (jup (jup (jup g 26 (p + 1) (1 - side)) 27 (p + 1) (nr (g 27 p) f x)) 28 (p + 1) F) 29 (p + 1) (g 29 p + 1)))) else jgd (0 ≤ ((p + 1 : Nat) : Int) ∧ ((p + 1 : Nat) : Int) < 304) (some (jup (jup (jup (jup g 26 (p + 1) (1 - side)) 27 (p + 1) (nr (g 27 p) f x)) 28 (p + 1) F) 29 (p + 1) 0)) else jgd (0 ≤ ((p + 1 : Nat) : Int) ∧ ((p + 1 : Nat) : Int) < 304) (some (jup (jup (jup (jup g 26 (p + 1) (1 - side)) 27 (p + 1) (nr (g 27 p) f x)) 28 (p + 1) F) 29 (p + 1) 0)))) = some (jup (jup (jup (jup g 26 (p + 1) (1 - side)) 27 (p + 1) (nr (g 27 p) f x)) 28 (p + 1) F) 29 (p + 1) (if pw = 1 ∨ tk = 1 then 0 else g 29 p + 1)) := by
    intro F
    rw [jgd_pos (by omega)]
    rcases hpw with e | e
    · rw [if_pos e]
      rcases htk with e2 | e2
      · rw [if_pos e2, jgd_pos (by omega), jgd_pos (by omega), if_neg (by omega)]
      · rw [if_neg (by omega), jgd_pos (by omega), if_pos (Or.inr e2)]
    · rw [if_neg (by omega), jgd_pos (by omega), if_pos (Or.inl e)]
  rcases hpw with e | e
  · rw [if_pos e]
    have := fin (-1)
    rw [if_neg (show ¬ (pw = 1 ∧ (x = f + 16 ∨ f = x + 16)) from fun q => by omega)]
    exact this
  · rw [if_neg (show ¬ pw = 0 by omega)]
    unfold f_M_size
    rw [jsub_eq (by omega) (by omega), jneg_eq (by omega) (by omega), jrem_eq (by omega) (by omega) (by omega) (by omega), show (f : Int) % 8 = ((f % 8 : Nat) : Int) by omega]
    simp only [obs]
    by_cases d : (if 0 ≤ (x : Int) - (f : Int) then (x : Int) - (f : Int) else -((x : Int) - (f : Int))) = 16
    · rw [if_pos d, if_pos (show pw = 1 ∧ (x = f + 16 ∨ f = x + 16) from ⟨e, by split at d <;> omega⟩)]
      exact fin _
    · rw [if_neg d, if_neg (show ¬ (pw = 1 ∧ (x = f + 16 ∨ f = x + 16)) from fun q => d (by split <;> omega))]
      exact fin _
