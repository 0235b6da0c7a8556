/-! printing -/
def OutX (h : jH) (l : List Int) : Prop := h 22 1 = (l.length : Int) ∧ ∀ i, i < l.length → l[i]? = some (h 23 i)
def OutM (h : jH) (l : List Int) : Prop := h 24 14 = (l.length : Int) ∧ ∀ i, i < l.length → l[i]? = some (h 32 i)
def SmX (h0 h : jH) : Prop := ∀ a, a ≠ 22 → a ≠ 23 → h a = h0 a
def SmM (h0 h : jH) : Prop := (∀ a, a ≠ 24 → a ≠ 32 → h a = h0 a) ∧ ∀ k, k ≠ 0 → k ≠ 14 → h 24 k = h0 24 k
theorem addX {h0 h : jH} {l : List Int} {v : Int} (hs : SmX h0 h) (ho : OutX h l) (hl : l.length < 100) (v0 : 0 ≤ v) (v1 : v < 256) : ∃ h', f_Tx_add 22 h v = some h' ∧ SmX h0 h' ∧ OutX h' (l ++ [v]) := by
  refine ⟨_, add_ok h ho.1 hl v0 v1, fun a h1 h2 => ?_, ?_, fun i hi => ?_⟩
  · rw [jup_n _ _ _ h1, jup_n _ _ _ h2]; exact hs a h1 h2
  · rw [jup_ss, List.length_append]; rfl
  · rw [List.length_append] at hi
    rw [jup_n _ _ _ (by decide)]
    by_cases c : i = l.length
    · subst c
      rw [List.getElem?_concat_length, jup_ss]
    · have : i < l.length := by simp only [List.length_cons, List.length_nil] at hi; omega
      rw [List.getElem?_append_left this, jup_sn _ _ _ c]; exact ho.2 i this
theorem sayM {h0 h : jH} {l : List Int} (v : Int) (hs : SmM h0 h) (ho : OutM h l) (hl : l.length < 100) : ∃ h', f_M_say h v = some h' ∧ SmM h0 h' ∧ OutM h' (l ++ [v]) := by
  unfold f_M_say
  rw [ho.1, jgd_pos (by omega), Int.toNat_natCast, jup_n _ _ _ (by decide), ho.1, jadd_eq (by omega) (by omega)]
  refine ⟨_, rfl, ⟨fun a h1 h2 => ?_, fun k h1 h2 => ?_⟩, ?_, fun i hi => ?_⟩
  · rw [jup_n _ _ _ h1, jup_n _ _ _ h2]; exact hs.1 a h1 h2
  · rw [jup_sn _ _ _ h2, jup_n _ _ _ (by decide)]; exact hs.2 k h1 h2
  · rw [jup_ss, List.length_append]; rfl
  · rw [List.length_append] at hi
    rw [jup_n _ _ _ (by decide)]
    by_cases c : i = l.length
    · subst c
      rw [List.getElem?_concat_length, jup_ss]
    · have : i < l.length := by simp only [List.length_cons, List.length_nil] at hi; omega
      rw [List.getElem?_append_left this, jup_sn _ _ _ c]; exact ho.2 i this
def SX (h0 : jH) (act : jH → Option jH) (l : List Int) : Prop := ∀ h pre, SmX h0 h → OutX h pre → pre.length + l.length ≤ 100 → ∃ h', act h = some h' ∧ SmX h0 h' ∧ OutX h' (pre ++ l)
theorem SX_seq {h0 : jH} {a b : jH → Option jH} {l m : List Int} (ha : SX h0 a l) (hb : SX h0 b m) : SX h0 (fun h => (a h).bind b) (l ++ m) := by
  intro h pre hs ho hl
  rw [List.length_append] at hl
  obtain ⟨h1, a1, a2, a3⟩ := ha h pre hs ho (by omega)
  obtain ⟨h2, b1, b2, b3⟩ := hb h1 (pre ++ l) a2 a3 (by rw [List.length_append]; omega)
  refine ⟨h2, ?_, b2, by rw [← List.append_assoc]; exact b3⟩
  show (a h).bind b = _
  rw [a1, obs]; exact b1
theorem SX_none (h0 : jH) : SX h0 (fun h => some h) [] := fun h pre hs ho _ => ⟨h, rfl, hs, by rw [List.append_nil]; exact ho⟩
theorem SX_one (h0 : jH) {v : Int} (v0 : 0 ≤ v) (v1 : v < 256) : SX h0 (fun h => f_Tx_add 22 h v) [v] := fun h pre hs ho hl => addX hs ho (by simp only [List.length_cons, List.length_nil] at hl; omega) v0 v1
theorem SX_e {h0 : jH} {a b : jH → Option jH} {l m : List Int} (h : SX h0 a l) (e : ∀ g, SmX h0 g → b g = a g) (el : l = m) : SX h0 b m := by
  subst el
  intro g pre hs ho hl
  rw [e g hs]
  exact h g pre hs ho hl
def gapL (g : Nat) : List Int := if g = 0 then [] else [48 + (g : Int)]
def ltr (p : Int) : Int := (jxc.getD 5 []).getD (p.toNat - 1) 0
def rowL (b : Nat → Int) (r : Nat) : Nat → Nat → List Int
  | 0, g => gapL g
  | m + 1, g => if b (8 * r + (7 - m)) = 0 then rowL b r m (g + 1) else gapL g ++ ([ltr (b (8 * r + (7 - m)))] ++ rowL b r m 0)
theorem gapL_len (g : Nat) : (gapL g).length = if g = 0 then 0 else 1 := by
  unfold gapL
  by_cases c : g = 0
  · rw [if_pos c, if_pos c]; rfl
  · rw [if_neg c, if_neg c]; rfl
theorem rowL_len (b : Nat → Int) (r : Nat) : ∀ m g, (rowL b r m g).length ≤ m + (if g = 0 then 0 else 1) := by
  intro m
  induction m with
  | zero => intro g; unfold rowL; rw [gapL_len]; omega
  | succ m ih =>
    intro g
    unfold rowL
    by_cases c : b (8 * r + (7 - m)) = 0
    · rw [if_pos c]
      have := ih (g + 1)
      rw [if_neg (by omega)] at this
      omega
    · rw [if_neg c, List.length_append, List.length_append, gapL_len]
      have := ih 0
      rw [if_pos rfl] at this
      simp only [List.length_cons, List.length_nil]
      omega
theorem ch_tab : ∀ n : Nat, n < 12 → jand ((jxc.getD 5 []).getD n 0) 255 = (jxc.getD 5 []).getD n 0 ∧ 0 ≤ (jxc.getD 5 []).getD n 0 ∧ (jxc.getD 5 []).getD n 0 < 256 := by decide +kernel
theorem ch_ok (h : jH) {p : Int} (p0 : 1 ≤ p) (p1 : p ≤ 12) : f_Js_charAt 7 h (jsub p 1) = some (ltr p) := by
  obtain ⟨t1, t2, t3⟩ := ch_tab (p.toNat - 1) (by omega)
  unfold f_Js_charAt f_Js_isLatin1
  rw [obs, jsub_eq (by omega) (by omega), if_neg (by decide)]
  unfold f_Jt_charAt f_Js_checkIndex f_Jp_checkIndex
  have hlen : (((jxc.getD (7 - 2) []).length : Nat) : Int) = 12 := by decide
  rw [hlen, if_neg (by omega), if_pos (by omega), obs, obs, jgd_pos (by omega), show (p - 1).toNat = p.toNat - 1 by omega]
  have e : (jxc.getD (7 - 2) []).getD (p.toNat - 1) 0 = (jxc.getD 5 []).getD (p.toNat - 1) 0 := rfl
  rw [e, t1, i2c t2 t3, jgd_pos (by omega), obs, jgd_pos (by omega)]
  rfl
theorem ltr_rng {p : Int} (p0 : 1 ≤ p) (p1 : p ≤ 12) : 0 ≤ ltr p ∧ ltr p < 256 := (ch_tab (p.toNat - 1) (by omega)).2
theorem lo_tab : ∀ n : Nat, n < 12 → ∀ h : Int, ((if (if ((n : Int) + 1) ≤ 6 then ((n : Int) + 1) else jsub ((n : Int) + 1) 6) = 1 then (80 : Int) else if (if ((n : Int) + 1) ≤ 6 then ((n : Int) + 1) else jsub ((n : Int) + 1) 6) = 2 then 78 else if (if ((n : Int) + 1) ≤ 6 then ((n : Int) + 1) else jsub ((n : Int) + 1) 6) = 3 then 66 else if (if ((n : Int) + 1) ≤ 6 then ((n : Int) + 1) else jsub ((n : Int) + 1) 6) = 4 then 82 else if (if ((n : Int) + 1) ≤ 6 then ((n : Int) + 1) else jsub ((n : Int) + 1) 6) = 5 then 81 else 75) + (if ((n : Int) + 1) ≤ 6 then 0 else 32)) = (jxc.getD 5 []).getD n 0 := by
  have t : ∀ n : Nat, n < 12 → ((if (if ((n : Int) + 1) ≤ 6 then ((n : Int) + 1) else jsub ((n : Int) + 1) 6) = 1 then (80 : Int) else if (if ((n : Int) + 1) ≤ 6 then ((n : Int) + 1) else jsub ((n : Int) + 1) 6) = 2 then 78 else if (if ((n : Int) + 1) ≤ 6 then ((n : Int) + 1) else jsub ((n : Int) + 1) 6) = 3 then 66 else if (if ((n : Int) + 1) ≤ 6 then ((n : Int) + 1) else jsub ((n : Int) + 1) 6) = 4 then 82 else if (if ((n : Int) + 1) ≤ 6 then ((n : Int) + 1) else jsub ((n : Int) + 1) 6) = 5 then 81 else 75) + (if ((n : Int) + 1) ≤ 6 then 0 else 32)) = (jxc.getD 5 []).getD n 0 := by decide +kernel
  exact fun n hn _ => t n hn
theorem let_ok (h : jH) {p : Int} (p0 : 1 ≤ p) (p1 : p ≤ 12) : f_M_letterOf h p = some (ltr p) := by
  have t := lo_tab (p.toNat - 1) (by omega) 0
  rw [show ((p.toNat - 1 : Nat) : Int) + 1 = p by omega] at t
  unfold f_M_letterOf f_M_kindOf f_M_letterOf_j57
  rw [obs]
  unfold ltr
  rw [← t]
  by_cases c : p ≤ 6
  · rw [if_pos c, if_pos c, if_pos c, Int.add_zero]
  · rw [if_neg c, if_neg c, if_neg c]
    rw [jadd_eq (by split <;> (try split) <;> (try split) <;> (try split) <;> (try split) <;> omega) (by split <;> (try split) <;> (try split) <;> (try split) <;> (try split) <;> omega)]
theorem gapX (h0 : jH) {g : Nat} (hg : g ≤ 8) : SX h0 (fun h => f_Tx_addGap h (g : Int)) (gapL g) := by
  unfold f_Tx_addGap gapL
  by_cases c : g = 0
  · rw [if_pos c]
    exact SX_e (SX_none h0) (fun q _ => by rw [if_pos (by omega)]) rfl
  · rw [if_neg c]
    refine SX_e (SX_one h0 (v := 48 + (g : Int)) (by omega) (by omega)) (fun q _ => ?_) rfl
    rw [if_neg (by omega), jadd_eq (by omega) (by omega)]
    cases f_Tx_add 22 q (48 + (g : Int)) <;> rfl
theorem rowX (h0 : jH) {r : Nat} (hr : r < 8) (b : Nat → Int) (hE : EqB (h0 3) b) (hB : BR b) : ∀ m, m ≤ 8 → ∀ q g : Nat, m < q → g + m ≤ 8 → SX h0 (fun h => f_Tx_addRank_lp5 (r : Int) (fun l9 l10 h11 => (f_Tx_addGap h11 l9).bind fun v12 => some v12) q (g : Int) (8 - (m : Int)) h) (rowL b r m g) := by
  intro m
  induction m with
  | zero =>
    intro _ q g hq hg
    obtain ⟨q, rfl⟩ : ∃ q', q = q' + 1 := ⟨q - 1, by omega⟩
    unfold rowL
    refine SX_e (gapX h0 (show g ≤ 8 by omega)) (fun z _ => ?_) rfl
    rw [f_Tx_addRank_lp5, if_pos (by omega)]
    cases f_Tx_addGap z (g : Int) <;> rfl
  | succ m ih =>
    intro hm q g hq hg
    obtain ⟨q, rfl⟩ : ∃ q', q = q' + 1 := ⟨q - 1, by omega⟩
    have hs64 : 8 * r + (7 - m) < 64 := by omega
    have est : ∀ z : jH, SmX h0 z → f_Tx_addRank_lp5 (r : Int) (fun l9 l10 h11 => (f_Tx_addGap h11 l9).bind fun v12 => some v12) (q + 1) (g : Int) (8 - ((m + 1 : Nat) : Int)) z = if b (8 * r + (7 - m)) = 0 then f_Tx_addRank_lp5 (r : Int) (fun l9 l10 h11 => (f_Tx_addGap h11 l9).bind fun v12 => some v12) q ((g + 1 : Nat) : Int) (8 - (m : Int)) z else (f_Tx_addGap z (g : Int)).bind fun v6 => (f_Tx_add 22 v6 (ltr (b (8 * r + (7 - m))))).bind fun v8 => f_Tx_addRank_lp5 (r : Int) (fun l9 l10 h11 => (f_Tx_addGap h11 l9).bind fun v12 => some v12) q ((0 : Nat) : Int) (8 - (m : Int)) v8 := by
      intro z hz
      rw [f_Tx_addRank_lp5, if_neg (by omega), sq_ok z (by omega) (by omega) (by omega) (by omega), obs, jgd_pos (by omega), show (8 * (r : Int) + (8 - ((m + 1 : Nat) : Int))).toNat = 8 * r + (7 - m) by omega, hz 3 (by decide) (by decide), hE _ hs64, jadd_eq (a := (g : Int)) (by omega) (by omega), jadd_eq (by omega) (by omega), show (8 - ((m + 1 : Nat) : Int)) + 1 = 8 - (m : Int) by omega]
      by_cases c : b (8 * r + (7 - m)) = 0
      · rw [if_pos c, if_pos c]; rfl
      · rw [if_neg c, if_neg c]
        have := hB _ hs64
        congr 1
        funext v6
        rw [ch_ok v6 (by omega) (by omega), obs]
        rfl
    unfold rowL
    by_cases c : b (8 * r + (7 - m)) = 0
    · rw [if_pos c]
      exact SX_e (ih (by omega) q (g + 1) (by omega) (by omega)) (fun z hz => by rw [est z hz, if_pos c]) rfl
    · rw [if_neg c]
      have := hB _ hs64
      have lr := ltr_rng (p := b (8 * r + (7 - m))) (by omega) (by omega)
      refine SX_e (SX_seq (gapX h0 (show g ≤ 8 by omega)) (SX_seq (SX_one h0 lr.1 lr.2) (ih (by omega) q 0 (by omega) (by omega)))) (fun z hz => ?_) rfl
      rw [est z hz, if_neg c]
/-- the squares' letters, q ranks of them -/
def sqL (b : Nat → Int) : Nat → List Int
  | 0 => []
  | q + 1 => sqL b q ++ (rowL b (7 - q) 8 0 ++ [if q = 7 then 32 else 47])
theorem sqL_len (b : Nat → Int) : ∀ q, (sqL b q).length ≤ 9 * q := by
  intro q
  induction q with
  | zero => exact Nat.le_refl _
  | succ q ih =>
    unfold sqL
    have := rowL_len b (7 - q) 8 0
    rw [if_pos rfl] at this
    rw [List.length_append, List.length_append]
    simp only [List.length_cons, List.length_nil]
    omega
