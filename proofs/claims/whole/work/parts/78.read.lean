/-! reading: letters and pieces -/
def TxX (h : jH) (T : Nat → Int) (L : Nat) : Prop := h 18 1 = (L : Int) ∧ ∀ i, i < L → h 19 i = T i
def TxM (h : jH) (T : Nat → Int) (L : Nat) : Prop := h 24 10 = (L : Int) ∧ ∀ i, i < L → h 31 i = T i
def FrQ (h h' : jH) : Prop := ∀ a, a ≠ 17 → a ≠ 20 → a ≠ 21 → h' a = h a
def FrP (h h' : jH) : Prop := (∀ a, a ≠ 24 → a ≠ 25 → a ≠ 26 → a ≠ 27 → a ≠ 28 → a ≠ 29 → h' a = h a) ∧ (∀ k, k ≠ 11 → k ≠ 12 → h' 24 k = h 24 k) ∧ ∀ r, r ≠ 303 → (∀ y, y < 64 → mb h' r y = mb h r y) ∧ h' 26 r = h 26 r ∧ h' 27 r = h 27 r ∧ h' 28 r = h 28 r ∧ h' 29 r = h 29 r
theorem FrQ_0 (h : jH) : FrQ h h := fun _ _ _ _ => rfl
theorem FrP_0 (h : jH) : FrP h h := ⟨fun _ _ _ _ _ _ _ => rfl, fun _ _ _ => rfl, fun _ _ => ⟨fun _ _ => rfl, rfl, rfl, rfl, rfl⟩⟩
theorem FrQ_t {a b c : jH} (h : FrQ a b) (g : FrQ b c) : FrQ a c := fun x h1 h2 h3 => (g x h1 h2 h3).trans (h x h1 h2 h3)
theorem FrP_t {a b c : jH} (h : FrP a b) (g : FrP b c) : FrP a c := ⟨fun x h1 h2 h3 h4 h5 h6 => (g.1 x h1 h2 h3 h4 h5 h6).trans (h.1 x h1 h2 h3 h4 h5 h6), fun k h1 h2 => (g.2.1 k h1 h2).trans (h.2.1 k h1 h2), fun r hr => ⟨fun y hy => ((g.2.2 r hr).1 y hy).trans ((h.2.2 r hr).1 y hy), (g.2.2 r hr).2.1.trans (h.2.2 r hr).2.1, (g.2.2 r hr).2.2.1.trans (h.2.2 r hr).2.2.1, (g.2.2 r hr).2.2.2.1.trans (h.2.2 r hr).2.2.2.1, (g.2.2 r hr).2.2.2.2.trans (h.2.2 r hr).2.2.2.2⟩⟩
theorem FrQ_up (h : jH) {a k : Nat} (v : Int) (ha : a = 17 ∨ a = 20 ∨ a = 21) : FrQ h (jup h a k v) := fun x h1 h2 h3 => jup_n _ _ _ (by omega)
theorem FrP_24 (h : jH) {k : Nat} (v : Int) (hk : k = 11 ∨ k = 12) : FrP h (jup h 24 k v) := ⟨fun x h1 h2 h3 h4 h5 h6 => jup_n _ _ _ h1, fun j h1 h2 => jup_sn _ _ _ (by omega), fun r hr => ⟨fun y hy => by rw [mb_o _ _ _ (by decide)], by rw [jup_n _ _ _ (by decide)], by rw [jup_n _ _ _ (by decide)], by rw [jup_n _ _ _ (by decide)], by rw [jup_n _ _ _ (by decide)]⟩⟩
theorem FrP_25 (h : jH) {s : Nat} (v : Int) (hs : s < 64) : FrP h (jup h 25 (64 * 303 + s) v) := ⟨fun x h1 h2 h3 h4 h5 h6 => jup_n _ _ _ h2, fun j h1 h2 => by rw [jup_n _ _ _ (by decide)], fun r hr => ⟨fun y hy => by rw [mb_up _ _ hs hy, if_neg (fun q => hr q.1)], by rw [jup_n _ _ _ (by decide)], by rw [jup_n _ _ _ (by decide)], by rw [jup_n _ _ _ (by decide)], by rw [jup_n _ _ _ (by decide)]⟩⟩
theorem FrP_st (h : jH) {a : Nat} (v : Int) (ha : a = 26 ∨ a = 27 ∨ a = 28 ∨ a = 29) : FrP h (jup h a 303 v) := by
  refine ⟨fun x h1 h2 h3 h4 h5 h6 => jup_n _ _ _ (by omega), fun j h1 h2 => by rw [jup_n _ _ _ (by omega)], fun r hr => ⟨fun y hy => by rw [mb_o _ _ _ (by omega)], ?_, ?_, ?_, ?_⟩⟩
  all_goals
    rcases ha with e | e | e | e <;> subst e
    all_goals first
      | rw [jup_sn _ _ _ hr]
      | rw [jup_n _ _ _ (by decide)]
theorem TxX_f {h h' : jH} {T : Nat → Int} {L : Nat} (ht : TxX h T L) (hf : FrQ h h') : TxX h' T L := by
  unfold TxX; rw [hf 18 (by decide) (by decide) (by decide), hf 19 (by decide) (by decide) (by decide)]; exact ht
theorem TxM_f {h h' : jH} {T : Nat → Int} {L : Nat} (ht : TxM h T L) (hf : FrP h h') : TxM h' T L := by
  unfold TxM; rw [hf.2.1 10 (by decide) (by decide), hf.1 31 (by decide) (by decide) (by decide) (by decide) (by decide) (by decide)]; exact ht
def ltx (T : Nat → Int) (L p : Nat) : Int := if p < L then T p else -1
def ltm (T : Nat → Int) (L p : Nat) : Int := if p < L then T p else 0
def okT (T : Nat → Int) (L : Nat) : Prop := L ≤ 100 ∧ ∀ i, i < L → 32 ≤ T i ∧ T i ≤ 126
theorem let_x {h : jH} {T : Nat → Int} {L p : Nat} (hT : okT T L) (ht : TxX h T L) (hp : h 17 2 = (p : Int)) : f_Rd_letter h = some (ltx T L p) := by
  unfold f_Rd_letter f_Tx_letterAt ltx
  rw [hp, if_neg (by omega), ht.1]
  by_cases c : p < L
  · have := hT.1
    rw [if_pos (by omega), if_pos c, jgd_pos (by omega), Int.toNat_natCast, ht.2 p c, obs]
  · rw [if_neg (by omega), if_neg c, obs]
theorem let_m {h : jH} {T : Nat → Int} {L p : Nat} (hT : okT T L) (ht : TxM h T L) (hp : h 24 11 = (p : Int)) : f_M_next h = some (ltm T L p) := by
  unfold f_M_next ltm
  rw [hp, ht.1]
  by_cases c : p < L
  · have := hT.1
    rw [if_neg (by omega), if_pos c, jgd_pos (by omega), Int.toNat_natCast, ht.2 p c]
  · rw [if_pos (by omega), if_neg c]
theorem lt_eq {T : Nat → Int} {L p : Nat} {c : Int} (hc : 32 ≤ c) : ltm T L p = c ↔ ltx T L p = c := by
  unfold ltm ltx
  by_cases d : p < L
  · rw [if_pos d, if_pos d]
  · rw [if_neg d, if_neg d]; omega
theorem lt_in {T : Nat → Int} {L p : Nat} {c : Int} (hc : 32 ≤ c) (h : ltx T L p = c) : p < L := by
  unfold ltx at h
  by_cases d : p < L
  · exact d
  · rw [if_neg d] at h; omega
theorem take_x {h : jH} {T : Nat → Int} {L p : Nat} (hT : okT T L) (ht : TxX h T L) (hp : h 17 2 = (p : Int)) (hpl : p ≤ L) (c : Int) : f_Rd_takeLetter h c = some (if ltx T L p = c then (1, jup h 17 2 ((p + 1 : Nat) : Int)) else (0, h)) := by
  have := hT.1
  unfold f_Rd_takeLetter
  rw [let_x hT ht hp, obs, hp, jadd_eq (by omega) (by omega)]
  rfl
theorem jup_id (h : jH) (a k : Nat) : jup h a k (h a k) = h := by
  apply jH_ext
  intro a' k'
  by_cases e : a' = a
  · subst e
    rw [jup_s]
    by_cases e2 : k' = k
    · rw [if_pos e2, e2]
    · rw [if_neg e2]
  · rw [jup_n _ _ _ e]
theorem is_m {h : jH} {T : Nat → Int} {L p : Nat} (hT : okT T L) (ht : TxM h T L) (hp : h 24 11 = (p : Int)) (hpl : p ≤ L) {c : Int} (hc : 32 ≤ c) : f_M_is h c = some (if ltx T L p = c then (1, jup h 24 11 ((p + 1 : Nat) : Int)) else (0, h)) := by
  have := hT.1
  unfold f_M_is f_M_is_j13
  rw [let_m hT ht hp, obs]
  by_cases d : ltx T L p = c
  · rw [if_pos d, if_pos ((lt_eq hc).mpr d), if_neg (by decide), jgd_pos (by decide), hp, jadd_eq (by omega) (by omega)]; rfl
  · rw [if_neg d, if_neg (fun q => d ((lt_eq hc).mp q)), if_pos rfl, jgd_pos (by decide), jup_id]
/-- the piece that a letter stands for, 0 if none -/
def pcR (v : Int) : Nat → Nat
  | 0 => 0
  | k + 1 => if ltr ((k + 1 : Nat) : Int) = v then k + 1 else pcR v k
def pcI (v : Int) : Nat := pcR v 12
theorem ltr_inj : ∀ a : Nat, a < 13 → ∀ b : Nat, b < 13 → 1 ≤ a → 1 ≤ b → ltr (a : Int) = ltr (b : Int) → a = b := by decide +kernel
theorem pcR_sp (v : Int) : ∀ k, (pcR v k = 0 ∧ ∀ j : Nat, 1 ≤ j → j ≤ k → ltr (j : Int) ≠ v) ∨ (1 ≤ pcR v k ∧ pcR v k ≤ k ∧ ltr ((pcR v k : Nat) : Int) = v) := by
  intro k
  induction k with
  | zero => left; exact ⟨rfl, fun j h1 h2 => by omega⟩
  | succ k ih =>
    unfold pcR
    by_cases c : ltr ((k + 1 : Nat) : Int) = v
    · rw [if_pos c]; right; exact ⟨by omega, Nat.le_refl _, c⟩
    · rw [if_neg c]
      rcases ih with ⟨h1, h2⟩ | ⟨h1, h2, h3⟩
      · left
        refine ⟨h1, fun j j1 j2 => ?_⟩
        by_cases e : j = k + 1
        · subst e; exact c
        · exact h2 j j1 (by omega)
      · right; exact ⟨h1, by omega, h3⟩
theorem pcI_le (v : Int) : pcI v ≤ 12 := by
  rcases pcR_sp v 12 with h | h
  · unfold pcI; omega
  · exact h.2.1
theorem pcI_no {v : Int} (h : ∀ j : Nat, 1 ≤ j → j ≤ 12 → ltr (j : Int) ≠ v) : pcI v = 0 := by
  rcases pcR_sp v 12 with q | q
  · exact q.1
  · exact absurd q.2.2 (h _ q.1 q.2.1)
theorem pcI_of {v : Int} {z : Nat} (h1 : 1 ≤ z) (h2 : z ≤ 12) (h3 : ltr (z : Int) = v) : pcI v = z := by
  rcases pcR_sp v 12 with q | q
  · exact absurd h3 (q.2 z h1 h2)
  · have := q.2.1
    exact ltr_inj _ (show pcR v 12 < 13 by omega) z (by omega) q.1 h1 (by rw [h3]; exact q.2.2)
theorem ltr_b : ∀ a : Nat, a < 13 → 1 ≤ a → 66 ≤ ltr (a : Int) ∧ ltr (a : Int) ≤ 114 := by decide +kernel
theorem pcI_hi {v : Int} (h : pcI v ≠ 0) : 66 ≤ v := by
  rcases pcR_sp v 12 with q | q
  · exact absurd q.1 h
  · have := ltr_b (pcR v 12) (by omega) q.1
    rw [q.2.2] at this
    exact this.1
theorem pf_x (h : jH) (v : Int) : f_Rd_pieceFor h v = some (if pcI v = 0 then -1 else (pcI v : Int)) := by
  unfold f_Rd_pieceFor
  refine lp_ex (fun n (i : Nat) (_ : Unit) => f_Rd_pieceFor_lp2 h v (fun l4 => some (-1)) n (i : Int)) 12 (fun _ => some (-1)) (fun o => o = some (if pcI v = 0 then -1 else (pcI v : Int)))
    (fun i _ => ∀ j : Nat, 1 ≤ j → j ≤ i → ltr (j : Int) ≠ v) ?_ ?_ ?_ () 1000 (fun j h1 h2 => by omega) (by omega)
  · intro n s hs
    show f_Rd_pieceFor_lp2 _ _ _ (n + 1) _ = _
    rw [f_Rd_pieceFor_lp2, if_pos (by omega)]
  · intro n i s hi hs
    show (∃ s', _ ∧ f_Rd_pieceFor_lp2 _ _ _ (n + 1) _ = f_Rd_pieceFor_lp2 _ _ _ n ((i + 1 : Nat) : Int)) ∨ f_Rd_pieceFor_lp2 _ _ _ (n + 1) _ = _
    have ce : f_Js_charAt 7 h (i : Int) = some (ltr ((i + 1 : Nat) : Int)) := by
      have := ch_ok h (p := ((i + 1 : Nat) : Int)) (by omega) (by omega)
      rw [jsub_eq (by omega) (by omega), show ((i + 1 : Nat) : Int) - 1 = (i : Int) by omega] at this
      exact this
    rw [f_Rd_pieceFor_lp2, if_neg (by omega), ce, obs, jadd_eq (by omega) (by omega)]
    by_cases c : ltr ((i + 1 : Nat) : Int) = v
    · rw [if_pos c]
      right
      rw [pcI_of (z := i + 1) (by omega) (by omega) c, if_neg (by omega)]; rfl
    · rw [if_neg c]
      left
      refine ⟨(), fun j j1 j2 => ?_, rfl⟩
      by_cases e : j = i + 1
      · subst e; exact c
      · exact hs j j1 (by omega)
  · intro s hs
    rw [pcI_no hs, if_pos rfl]
theorem pf_m (h : jH) (v x23 x25 : Int) (k : Int → Int → Option (Int × jH)) (G : Int → Option (Int × jH)) (hk : ∀ a b, k a b = G a) : f_M_readSquares_lp96 h x23 v x25 k 1000 0 1 = G (pcI v : Int) := by
  have run := lp_all (fun n (i : Nat) (s : Int) => f_M_readSquares_lp96 h x23 v x25 k n s ((i + 1 : Nat) : Int)) 12 G
    (fun i s => (s = 0 ∧ ∀ j : Nat, 1 ≤ j → j ≤ i → ltr (j : Int) ≠ v) ∨ ∃ z : Nat, s = (z : Int) ∧ 1 ≤ z ∧ z ≤ i ∧ ltr (z : Int) = v) (by
      intro n s hs
      show f_M_readSquares_lp96 _ _ _ _ _ (n + 1) s _ = _
      rw [f_M_readSquares_lp96, if_pos (by omega), hk]) (by
      intro n i s hi hs
      show ∃ s', _ ∧ f_M_readSquares_lp96 _ _ _ _ _ (n + 1) s _ = f_M_readSquares_lp96 _ _ _ _ _ n s' ((i + 1 + 1 : Nat) : Int)
      rw [f_M_readSquares_lp96, if_neg (by omega), let_ok h (by omega) (by omega), obs, jadd_eq (by omega) (by omega)]
      refine ⟨_, ?_, rfl⟩
      by_cases c : ltr ((i + 1 : Nat) : Int) = v
      · rw [if_pos c]; right; exact ⟨i + 1, rfl, by omega, Nat.le_refl _, c⟩
      · rw [if_neg c]
        rcases hs with ⟨h1, h2⟩ | ⟨z, h1, h2, h3, h4⟩
        · left
          refine ⟨h1, fun j j1 j2 => ?_⟩
          by_cases e : j = i + 1
          · subst e; exact c
          · exact h2 j j1 (by omega)
        · right; exact ⟨z, h1, h2, by omega, h4⟩) 0 1000 (Or.inl ⟨rfl, fun j h1 h2 => by omega⟩) (by omega)
  obtain ⟨s, h1, h2⟩ := run
  have e : f_M_readSquares_lp96 h x23 v x25 k 1000 0 1 = G s := h2
  rw [e]
  rcases h1 with ⟨q1, q2⟩ | ⟨z, q1, q2, q3, q4⟩
  · rw [pcI_no q2, q1]; rfl
  · rw [pcI_of q2 q3 q4, q1]
