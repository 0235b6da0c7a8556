/-! the words in which the class keeps earlier positions -/
theorem uv_inj {a b : Int} (ha : ok64 a) (hb : ok64 b) (h : uv a = uv b) : a = b := by
  unfold uv at h
  obtain ⟨a0, a1⟩ := ha
  obtain ⟨b0, b1⟩ := hb
  omega
theorem uv_or (a b : Int) : uv (jlor a b) = uv a ||| uv b := by
  unfold jlor
  rw [← uv_bv, bv_of, Int64.toBitVec_or, Int64.toBitVec_ofInt, Int64.toBitVec_ofInt, BitVec.toNat_or, uv_bv, uv_bv]
theorem uv_shl4 (a : Int) : uv (jlshl a 4) = uv a * 16 % 18446744073709551616 := by
  unfold jlshl
  rw [← uv_bv, bv_of, Int64.toBitVec_shiftLeft, Int64.toBitVec_ofInt, show (((Int32.ofInt 4).toInt64 &&& 63).toBitVec.smod 64) = 4#64 by decide, BitVec.shiftLeft_eq', BitVec.toNat_shiftLeft, uv_bv, Nat.shiftLeft_eq]
  rfl
theorem uv_st {v p : Int} (hv : uv v < 1152921504606846976) (p0 : 0 ≤ p) (p1 : p ≤ 12) : uv (jlor (jlshl v 4) p) = 16 * uv v + p.toNat := by
  rw [uv_or, uv_shl4, Nat.mod_eq_of_lt (by omega)]
  have ep : uv p = p.toNat := by unfold uv; omega
  have := Nat.two_pow_add_eq_or_of_lt (i := 4) (b := p.toNat) (by omega) (uv v)
  rw [ep, Nat.mul_comm (uv v) 16]
  exact this.symm
def pkN (b : Nat → Int) (a : Nat) : Nat → Nat
  | 0 => 0
  | i + 1 => 16 * pkN b a i + (b (a + i)).toNat
theorem pkN_lt {b : Nat → Int} {a : Nat} (hb : ∀ i, i < 16 → 0 ≤ b (a + i) ∧ b (a + i) ≤ 12) : ∀ i, i ≤ 16 → pkN b a i < 16 ^ i := by
  intro i
  induction i with
  | zero => intro _; show 0 < 1; exact Nat.one_pos
  | succ i ih =>
    intro hi
    have h1 := ih (by omega)
    have h2 := hb i (by omega)
    unfold pkN
    rw [Nat.pow_succ]
    omega
theorem pkN_inj {b b' : Nat → Int} {a : Nat} (hb : ∀ i, i < 16 → 0 ≤ b (a + i) ∧ b (a + i) ≤ 12) (hb' : ∀ i, i < 16 → 0 ≤ b' (a + i) ∧ b' (a + i) ≤ 12) : ∀ i, i ≤ 16 → (pkN b a i = pkN b' a i ↔ ∀ j, j < i → b (a + j) = b' (a + j)) := by
  intro i
  induction i with
  | zero => intro _; exact ⟨fun _ j hj => absurd hj (Nat.not_lt_zero _), fun _ => rfl⟩
  | succ i ih =>
    intro hi
    have h1 := ih (by omega)
    have h2 := hb i (by omega)
    have h3 := hb' i (by omega)
    unfold pkN
    constructor
    · intro e
      have e1 : pkN b a i = pkN b' a i := by omega
      have e2 : b (a + i) = b' (a + i) := by omega
      intro j hj
      by_cases c : j = i
      · subst c; exact e2
      · exact h1.mp e1 j (by omega)
    · intro e
      rw [h1.mpr (fun j hj => e j (by omega)), e i (by omega)]
theorem pk_ok (h : jH) (hB : BR (h 3)) {q : Nat} (hq : q < 4) : ∃ v, f_Ps_packed h ((16 * q : Nat) : Int) = some v ∧ ok64 v ∧ uv v = pkN (h 3) (16 * q) 16 := by
  have hb : ∀ i, i < 16 → 0 ≤ h 3 (16 * q + i) ∧ h 3 (16 * q + i) ≤ 12 := fun i hi => hB _ (by omega)
  unfold f_Ps_packed
  obtain ⟨s', h1, h2⟩ := lp_all (fun n (i : Nat) (s : Int) => f_Ps_packed_lp5 h ((16 * q : Nat) : Int) (fun l4 l5 => some l4) n s (i : Int)) 16 (fun s => some s)
    (fun i v => ok64 v ∧ uv v = pkN (h 3) (16 * q) i) (by
      intro n s hs
      show f_Ps_packed_lp5 _ _ _ (n + 1) s _ = _
      rw [f_Ps_packed_lp5, if_pos (by omega)]) (by
      intro n i v hi hv
      show ∃ s', _ ∧ f_Ps_packed_lp5 _ _ _ (n + 1) v _ = f_Ps_packed_lp5 _ _ _ n s' ((i + 1 : Nat) : Int)
      rw [f_Ps_packed_lp5, if_neg (by omega), jadd_eq (a := ((16 * q : Nat) : Int)) (by omega) (by omega), jadd_eq (a := (i : Int)) (by omega) (by omega), jgd_pos (by omega), show (((16 * q : Nat) : Int) + (i : Int)).toNat = 16 * q + i by omega]
      refine ⟨_, ⟨jlor_ok _ _, ?_⟩, rfl⟩
      have hlt := pkN_lt hb i (by omega)
      have hle : 16 ^ i ≤ 16 ^ 15 := Nat.pow_le_pow_right (by decide) (by omega)
      rw [uv_st (by rw [hv.2]; exact Nat.lt_of_lt_of_le hlt hle) (hb i hi).1 (hb i hi).2, hv.2]
      rfl) 0 1000 ⟨ok64_0, by show uv 0 = 0; decide⟩ (by omega)
  exact ⟨s', h2, h1⟩
def PW (h : jH) (k : Nat) (b : Nat → Int) (side rights w : Int) : Prop := (∀ q, q < 4 → ok64 (h 10 (6 * k + q)) ∧ uv (h 10 (6 * k + q)) = pkN b (16 * q) 16) ∧ h 10 (6 * k + 4) = 2 * rights + side ∧ h 10 (6 * k + 5) = w
theorem en_ok (h : jH) {n : Nat} {w : Int} (hn : n ≤ 300) (hB : BR (h 3)) (hS : h 2 1 = 0 ∨ h 2 1 = 1) (hr0 : 0 ≤ h 2 2) (hr1 : h 2 2 ≤ 15) :
    ∃ h', f_Ps_enter h (n : Int) w = some h' ∧ (∀ a, a ≠ 10 → h' a = h a) ∧ (∀ k, (k < 6 * n ∨ 6 * n + 6 ≤ k) → h' 10 k = h 10 k) ∧ PW h' n (h 3) (h 2 1) (h 2 2) w := by
  unfold f_Ps_enter
  rw [jmul_eq (by omega) (by omega), if_neg (by omega), jadd_eq (by omega) (by omega), if_pos (by omega)]
  obtain ⟨g, ⟨g1, g2, g3⟩, h2⟩ := lp_all (fun m (i : Nat) (g : jH) => f_Ps_enter_lp26 w (6 * (n : Int)) (fun l6 h7 => jgd (0 ≤ jadd (6 * (n : Int)) 4 ∧ jadd (6 * (n : Int)) 4 < 1806) (jgd (0 ≤ jadd (6 * (n : Int)) 5 ∧ jadd (6 * (n : Int)) 5 < 1806) (some (jup (jup h7 10 (jadd (6 * (n : Int)) 4).toNat (jladd (jlmul 2 (h7 2 2)) (h7 2 1))) 10 (jadd (6 * (n : Int)) 5).toNat w)))) m (i : Int) g) 4 (fun h7 => some (jup (jup h7 10 (6 * n + 4) (jladd (jlmul 2 (h7 2 2)) (h7 2 1))) 10 (6 * n + 5) w))
    (fun i g => (∀ a, a ≠ 10 → g a = h a) ∧ (∀ k, (k < 6 * n ∨ 6 * n + i ≤ k) → g 10 k = h 10 k) ∧ ∀ q, q < i → ok64 (g 10 (6 * n + q)) ∧ uv (g 10 (6 * n + q)) = pkN (h 3) (16 * q) 16) (by
      intro m g hg
      show f_Ps_enter_lp26 _ _ _ (m + 1) _ g = _
      rw [f_Ps_enter_lp26, if_pos (by omega), jadd_eq (by omega) (by omega), jadd_eq (by omega) (by omega), jgd_pos (by omega), jgd_pos (by omega), show (6 * (n : Int) + 4).toNat = 6 * n + 4 by omega, show (6 * (n : Int) + 5).toNat = 6 * n + 5 by omega]) (by
      intro m i g hi hg
      show ∃ s', _ ∧ f_Ps_enter_lp26 _ _ _ (m + 1) _ g = f_Ps_enter_lp26 _ _ _ m ((i + 1 : Nat) : Int) s'
      obtain ⟨q1, q2, q3⟩ := hg
      have e3 : g 3 = h 3 := q1 3 (by decide)
      obtain ⟨v, v1, v2, v3⟩ := pk_ok g (by rw [e3]; exact hB) hi
      rw [f_Ps_enter_lp26, if_neg (by omega), jmul_eq (by omega) (by omega), show 16 * (i : Int) = ((16 * i : Nat) : Int) by omega, v1, obs, jadd_eq (a := 6 * (n : Int)) (b := (i : Int)) (by omega) (by omega), jadd_eq (a := (i : Int)) (b := 1) (by omega) (by omega), jgd_pos (by omega), show (6 * (n : Int) + (i : Int)).toNat = 6 * n + i by omega]
      refine ⟨_, ⟨fun a ha => ?_, fun k hk => ?_, fun q hq => ?_⟩, rfl⟩
      · rw [jup_n _ _ _ ha]; exact q1 a ha
      · rw [jup_sn _ _ _ (by omega)]; exact q2 k (by omega)
      · by_cases c : q = i
        · subst c; rw [jup_ss, ← e3]; exact ⟨v2, v3⟩
        · rw [jup_sn _ _ _ (by omega)]; exact q3 q (by omega)) h 1000 ⟨fun _ _ => rfl, fun _ _ => rfl, fun q hq => absurd hq (Nat.not_lt_zero _)⟩ (by omega)
  have e2 : g 2 = h 2 := g1 2 (by decide)
  refine ⟨_, h2, fun a ha => ?_, fun k hk => ?_, fun q hq => ?_, ?_, ?_⟩
  · rw [jup_n _ _ _ ha, jup_n _ _ _ ha]; exact g1 a ha
  · rw [jup_sn _ _ _ (by omega), jup_sn _ _ _ (by omega)]; exact g2 k (by omega)
  · rw [jup_sn _ _ _ (by omega), jup_sn _ _ _ (by omega)]; exact g3 q hq
  · rw [jup_sn _ _ _ (by omega), jup_ss, e2]
    unfold jladd jlmul
    rw [w64_id (x := 2 * h 2 2) (by omega) (by omega), w64_id (by omega) (by omega)]
  · rw [jup_ss]
theorem jcmp_eq {a b : Int} : jcmp a b = 0 ↔ a = b := by
  unfold jcmp
  by_cases c : b < a
  · rw [if_pos c]; omega
  · rw [if_neg c]
    by_cases d : a = b
    · rw [if_pos d]; exact ⟨fun _ => d, fun _ => rfl⟩
    · rw [if_neg d]; omega
def sameP (b b' : Nat → Int) (side side' rights rights' w w' : Int) : Prop := EqB b b' ∧ side = side' ∧ rights = rights' ∧ w = w'
theorem is_ok (h : jH) {k m : Nat} (hk : k ≤ 300) (hm : m ≤ 300) : YN (f_Ps_isSame h ((6 * k : Nat) : Int) ((6 * m : Nat) : Int)) (∀ q, q < 6 → h 10 (6 * k + q) = h 10 (6 * m + q)) := by
  unfold f_Ps_isSame
  rw [jadd_eq (by omega) (by omega), if_neg (by omega), jadd_eq (by omega) (by omega), if_pos (by omega)]
  refine lp_ex (fun n (i : Nat) (_ : Unit) => f_Ps_isSame_lp24 h ((6 * k : Nat) : Int) ((6 * m : Nat) : Int) (fun l4 => some 1) n (i : Int)) 6 (fun _ => some 1) (fun o => YN o (∀ q, q < 6 → h 10 (6 * k + q) = h 10 (6 * m + q)))
    (fun i _ => ∀ q, q < i → h 10 (6 * k + q) = h 10 (6 * m + q)) ?_ ?_ ?_ () 1000 ?_ (by omega)
  · intro n s hs
    show f_Ps_isSame_lp24 _ _ _ _ (n + 1) _ = _
    rw [f_Ps_isSame_lp24, if_pos (by omega)]
  · intro n i s hi hs
    show (∃ s', _ ∧ f_Ps_isSame_lp24 _ _ _ _ (n + 1) _ = f_Ps_isSame_lp24 _ _ _ _ n ((i + 1 : Nat) : Int)) ∨ YN (f_Ps_isSame_lp24 _ _ _ _ (n + 1) _) _
    rw [f_Ps_isSame_lp24, if_neg (by omega), jadd_eq (by omega) (by omega), jadd_eq (by omega) (by omega), jadd_eq (by omega) (by omega), jgd_pos (by omega), jgd_pos (by omega), show (((6 * k : Nat) : Int) + (i : Int)).toNat = 6 * k + i by omega, show (((6 * m : Nat) : Int) + (i : Int)).toNat = 6 * m + i by omega]
    by_cases c : h 10 (6 * k + i) = h 10 (6 * m + i)
    · rw [if_pos (jcmp_eq.mpr c)]
      left
      refine ⟨(), fun q hq => ?_, rfl⟩
      by_cases d : q = i
      · subst d; exact c
      · exact hs q (by omega)
    · rw [if_neg (fun z => c (jcmp_eq.mp z))]
      right
      exact yn0 (fun z => c (z i hi))
  · intro s hs
    exact yn1 hs
  · intro q hq; exact absurd hq (Nat.not_lt_zero _)
theorem PW_same {h : jH} {k m : Nat} {b b' : Nat → Int} {side side' rights rights' w w' : Int} (hB : BR b) (hB' : BR b') (h1 : PW h k b side rights w) (h2 : PW h m b' side' rights' w') (hS : side = 0 ∨ side = 1) (hS' : side' = 0 ∨ side' = 1) :
    (∀ q, q < 6 → h 10 (6 * k + q) = h 10 (6 * m + q)) ↔ sameP b b' side side' rights rights' w w' := by
  have key : ∀ q, q < 4 → (h 10 (6 * k + q) = h 10 (6 * m + q) ↔ ∀ j, j < 16 → b (16 * q + j) = b' (16 * q + j)) := by
    intro q hq
    rw [← pkN_inj (a := 16 * q) (fun i hi => hB _ (by omega)) (fun i hi => hB' _ (by omega)) 16 (by omega), ← (h1.1 q hq).2, ← (h2.1 q hq).2]
    exact ⟨fun e => by rw [e], fun e => uv_inj (h1.1 q hq).1 (h2.1 q hq).1 e⟩
  constructor
  · intro e
    have e4 := e 4 (by omega)
    have e5 := e 5 (by omega)
    rw [h1.2.1, h2.2.1] at e4
    rw [h1.2.2, h2.2.2] at e5
    refine ⟨fun y hy => ?_, by omega, by omega, e5⟩
    have := (key (y / 16) (by omega)).mp (e (y / 16) (by omega)) (y % 16) (by omega)
    rw [show 16 * (y / 16) + y % 16 = y by omega] at this
    exact this
  · rintro ⟨e, e1, e2, e3⟩ q hq
    by_cases c : q < 4
    · exact (key q c).mpr (fun j hj => e _ (by omega))
    · by_cases d : q = 4
      · subst d; rw [h1.2.1, h2.2.1, e1, e2]
      · have : q = 5 := by omega
        subst this; rw [h1.2.2, h2.2.2, e3]
theorem cs_ok (h : jH) {n : Nat} (hn : n ≤ 300) (S : Nat → Prop) (hS : ∀ k, k ≤ n → ((∀ q, q < 6 → h 10 (6 * k + q) = h 10 (6 * n + q)) ↔ S k)) : f_Ps_countSame h (n : Int) = some ((sm (fun k => ind (S k)) (n + 1) : Nat) : Int) := by
  unfold f_Ps_countSame
  obtain ⟨s', h1, h2⟩ := lp_all (fun m (i : Nat) (s : Int) => f_Ps_countSame_lp4 h (n : Int) (fun l5 l6 => some l5) m s (i : Int)) (n + 1) (fun s => some s)
    (fun i s => s = ((sm (fun k => ind (S k)) i : Nat) : Int) ∧ sm (fun k => ind (S k)) i ≤ i) (by
      intro m s hs
      show f_Ps_countSame_lp4 _ _ _ (m + 1) s _ = _
      rw [f_Ps_countSame_lp4, if_pos (by omega)]) (by
      intro m i s hi hs
      show ∃ s', _ ∧ f_Ps_countSame_lp4 _ _ _ (m + 1) s _ = f_Ps_countSame_lp4 _ _ _ m s' ((i + 1 : Nat) : Int)
      obtain ⟨s1, s2⟩ := hs
      obtain ⟨z, z1, z2, z3⟩ := is_ok h (k := i) (m := n) (by omega) hn
      rw [f_Ps_countSame_lp4, if_neg (by omega), jmul_eq (by omega) (by omega), jmul_eq (by omega) (by omega), show 6 * (i : Int) = ((6 * i : Nat) : Int) by omega, show 6 * (n : Int) = ((6 * n : Nat) : Int) by omega, z1, obs, jadd_eq (by omega) (by omega), jadd_eq (by omega) (by omega)]
      rw [hS i (by omega)] at z3
      have ls := ind_le (S i)
      refine ⟨_, ?_, rfl⟩
      rw [sm_succ]
      by_cases c : z = 0
      · rw [if_pos c, ind_0 (fun q => by have := z3.mpr q; omega)]; exact ⟨s1, by omega⟩
      · rw [if_neg c, ind_1 (z3.mp (by omega))]; exact ⟨by omega, by omega⟩) 0 1000 ⟨rfl, Nat.le_refl _⟩ (by omega)
  rw [h1.1] at h2
  exact h2
