/-! reading: side, rights, passed file, count -/
theorem wp_ok (h : jH) (r : Nat) : ∃ h', f_Bd_wipe r h = some h' ∧ (∀ a, a ≠ r → a ≠ r + 1 → h' a = h a) ∧ (∀ k, k < 64 → h' (r + 1) k = 0) ∧ h' r 1 = 0 ∧ h' r 2 = 0 ∧ h' r 3 = -1 ∧ h' r 4 = 0 := by
  obtain ⟨g, ⟨g1, g2⟩, t⟩ := lp_all (fun n (i : Nat) (g : jH) => f_Ja_fillI_lp5 (r + 1) 0 64 (fun l5 h6 => some h6) n (i : Int) g) 64 (fun g => some g)
    (fun i g => (∀ a, a ≠ r + 1 → g a = h a) ∧ ∀ k, k < i → g (r + 1) k = 0) (by
      intro n g hg
      show f_Ja_fillI_lp5 _ _ _ _ (n + 1) _ g = _
      rw [f_Ja_fillI_lp5, if_pos (by omega)]) (by
      intro n i g hi hg
      show ∃ s', _ ∧ f_Ja_fillI_lp5 _ _ _ _ (n + 1) _ g = f_Ja_fillI_lp5 _ _ _ _ n ((i + 1 : Nat) : Int) s'
      rw [f_Ja_fillI_lp5, if_neg (by omega), jgd_pos (by omega), Int.toNat_natCast, jadd_eq (by omega) (by omega)]
      refine ⟨_, ⟨fun a ha => ?_, fun k hk => ?_⟩, rfl⟩
      · rw [jup_n _ _ _ ha]; exact hg.1 a ha
      · rw [jup_s]
        by_cases e : k = i
        · rw [if_pos e]
        · rw [if_neg e]; exact hg.2 k (by omega)) h 1000 ⟨fun _ _ => rfl, fun k hk => absurd hk (Nat.not_lt_zero _)⟩ (by omega)
  have t' : f_Ja_fillI (r + 1) h 0 = some g := t
  unfold f_Bd_wipe f_Bd_enterState
  rw [t', obs, obs]
  refine ⟨_, rfl, fun a a1 a2 => ?_, fun k hk => ?_, ?_, ?_, ?_, ?_⟩
  · rw [jup_n _ _ _ a1, jup_n _ _ _ a1, jup_n _ _ _ a1, jup_n _ _ _ a1]; exact g1 a a2
  · rw [jup_n _ _ _ (by omega), jup_n _ _ _ (by omega), jup_n _ _ _ (by omega), jup_n _ _ _ (by omega)]; exact g2 k hk
  · rw [jup_sn _ _ _ (by decide), jup_sn _ _ _ (by decide), jup_sn _ _ _ (by decide), jup_ss]
  · rw [jup_sn _ _ _ (by decide), jup_sn _ _ _ (by decide), jup_ss]
  · rw [jup_sn _ _ _ (by decide), jup_ss]
  · rw [jup_ss]
/-- the class's side of a stage keeps all but these -/
def KpX (h h' : jH) (ks : List Nat) : Prop := FrQ h h' ∧ h' 21 = h 21 ∧ ∀ k, k ∉ ks → h' 20 k = h 20 k
def KpM (h h' : jH) (as : List Nat) : Prop := FrP h h' ∧ (∀ s, mb h' 303 s = mb h 303 s) ∧ ∀ a, a ∉ as → (a = 26 ∨ a = 27 ∨ a = 28 ∨ a = 29) → h' a 303 = h a 303
theorem KpX_17 (h : jH) (k : Nat) (v : Int) (ks : List Nat) : KpX h (jup h 17 k v) ks := ⟨FrQ_up h v (Or.inl rfl), jup_n _ _ _ (by decide), fun _ _ => by rw [jup_n _ _ _ (by decide)]⟩
theorem KpX_20 (h : jH) {k : Nat} (v : Int) {ks : List Nat} (hk : k ∈ ks) : KpX h (jup h 20 k v) ks := ⟨FrQ_up h v (Or.inr (Or.inl rfl)), jup_n _ _ _ (by decide), fun j hj => jup_sn _ _ _ (fun e => hj (e ▸ hk))⟩
theorem KpX_t {a b c : jH} {ks : List Nat} (h : KpX a b ks) (g : KpX b c ks) : KpX a c ks := ⟨FrQ_t h.1 g.1, g.2.1.trans h.2.1, fun k hk => (g.2.2 k hk).trans (h.2.2 k hk)⟩
theorem KpX_0 (h : jH) (ks : List Nat) : KpX h h ks := ⟨FrQ_0 h, rfl, fun _ _ => rfl⟩
theorem KpM_0 (h : jH) (ks : List Nat) : KpM h h ks := ⟨FrP_0 h, fun _ => rfl, fun _ _ _ => rfl⟩
theorem KpM_t {a b c : jH} {ks : List Nat} (h : KpM a b ks) (g : KpM b c ks) : KpM a c ks := ⟨FrP_t h.1 g.1, fun s => (g.2.1 s).trans (h.2.1 s), fun k hk hq => (g.2.2 k hk hq).trans (h.2.2 k hk hq)⟩
theorem KpM_24 (h : jH) {k : Nat} (v : Int) (hk : k = 11 ∨ k = 12) (ks : List Nat) : KpM h (jup h 24 k v) ks := ⟨FrP_24 h v hk, fun s => by rw [mb_o _ _ _ (by decide)], fun a _ ha => by rw [jup_n _ _ _ (by omega)]⟩
theorem KpM_st (h : jH) {a : Nat} (v : Int) (ha : a = 26 ∨ a = 27 ∨ a = 28 ∨ a = 29) {ks : List Nat} (hk : a ∈ ks) : KpM h (jup h a 303 v) ks := ⟨FrP_st h v ha, fun s => by rw [mb_o _ _ _ (by omega)], fun b hb _ => by rw [jup_n _ _ _ (fun e : b = a => hb (by rw [e]; exact hk))]⟩
theorem sd_st {T : Nat → Int} {L : Nat} (hT : okT T L) {hX hM : jH} {p : Nat} (tx : TxX hX T L) (tm : TxM hM T L) (px : hX 17 2 = (p : Int)) (pm : hM 24 11 = (p : Int)) (hpl : p ≤ L) :
    ∃ hX' hM' p', p' ≤ L ∧ hX' 17 2 = ((p' : Nat) : Int) ∧ hM' 24 11 = (p' : Int) ∧ KpX hX hX' [1] ∧ hX' 17 3 = hX 17 3 ∧ KpM hM hM' [26] ∧
      ((f_Rd_takeSide hX = some (1, hX') ∧ (f_M_next hM).bind (fun v3 => f_M_readAll_j46 hM (if v3 = 98 then 1 else 0) 303) = f_M_readAll_j70 hM' 1 ∧ hX' 20 1 = hM' 26 303 ∧ (hX' 20 1 = 0 ∨ hX' 20 1 = 1)) ∨ (f_Rd_takeSide hX = some (0, hX') ∧ (f_M_next hM).bind (fun v3 => f_M_readAll_j46 hM (if v3 = 98 then 1 else 0) 303) = some (0, hM'))) := by
  have hL := hT.1
  unfold f_Rd_takeSide
  rw [take_x hT tx px hpl, obs, let_m hT tm pm, obs]
  unfold f_M_readAll_j46
  rw [jgd_pos (by decide), show ((303 : Int)).toNat = 303 from rfl]
  generalize hg : jup hM 26 303 (if ltm T L p = 98 then 1 else 0) = g
  have k0 : KpM hM g [26] := by rw [← hg]; exact KpM_st hM _ (Or.inl rfl) (List.mem_cons_self ..)
  have g26 : g 26 303 = if ltm T L p = 98 then 1 else 0 := by rw [← hg]; exact jup_ss _ _ _ _
  have pg : g 24 11 = (p : Int) := by rw [← hg, jup_n _ _ _ (by decide)]; exact pm
  have tg := TxM_f tm k0.1
  rw [is_m hT tg pg hpl (by decide), obs]
  by_cases c1 : ltx T L p = 119
  · have hpL := lt_in (by decide) c1
    rw [if_pos c1, if_pos c1]
    have e98 : ¬ ltm T L p = 98 := fun q => by have := (lt_eq (by decide)).mp q; omega
    rw [if_neg e98] at g26
    refine ⟨jup (jup hX 17 2 ((p + 1 : Nat) : Int)) 20 1 0, jup g 24 11 ((p + 1 : Nat) : Int), p + 1, by omega, ?_, jup_ss _ _ _ _, KpX_t (KpX_17 hX 2 _ _) (KpX_20 _ _ (List.mem_cons_self ..)), ?_, KpM_t k0 (KpM_24 g _ (Or.inl rfl) _), Or.inl ⟨?_, ?_, ?_, Or.inl (jup_ss _ _ _ _)⟩⟩
    · rw [jup_n _ _ _ (by decide), jup_ss]
    · rw [jup_n _ _ _ (by decide), jup_sn _ _ _ (by decide)]
    · show (if (1 : Int) = 0 then _ else _) = _
      rw [if_neg (by decide)]
    · show (if (1 : Int) = 0 then _ else _) = _
      rw [if_neg (by decide)]; rfl
    · rw [jup_ss, jup_n _ _ _ (by decide), g26]
  · rw [if_neg c1, if_neg c1]
    show ∃ hX' hM' p', p' ≤ L ∧ _ ∧ _ ∧ _ ∧ _ ∧ _ ∧ (((f_Rd_takeLetter (jup hX 20 1 1) 98).bind _ = _ ∧ (f_M_is g 98).bind _ = _ ∧ _) ∨ ((f_Rd_takeLetter (jup hX 20 1 1) 98).bind _ = _ ∧ (f_M_is g 98).bind _ = _))
    have k1 : KpX hX (jup hX 20 1 1) [1] := KpX_20 hX _ (List.mem_cons_self ..)
    rw [take_x hT (TxX_f tx k1.1) (by rw [jup_n _ _ _ (by decide)]; exact px) hpl, obs, is_m hT tg pg hpl (by decide), obs]
    by_cases c2 : ltx T L p = 98
    · have hpL := lt_in (by decide) c2
      rw [if_pos c2, if_pos c2]
      have e98 : ltm T L p = 98 := (lt_eq (by decide)).mpr c2
      rw [if_pos e98] at g26
      refine ⟨jup (jup hX 20 1 1) 17 2 ((p + 1 : Nat) : Int), jup g 24 11 ((p + 1 : Nat) : Int), p + 1, by omega, jup_ss _ _ _ _, jup_ss _ _ _ _, KpX_t k1 (KpX_17 _ 2 _ _), ?_, KpM_t k0 (KpM_24 g _ (Or.inl rfl) _), Or.inl ⟨?_, ?_, ?_, Or.inr ?_⟩⟩
      · rw [jup_sn _ _ _ (by decide), jup_n _ _ _ (by decide)]
      · exact jgd_pos (Or.inr rfl)
      · show (if (1 : Int) = 0 then _ else _) = _
        rw [if_neg (by decide)]; rfl
      · rw [jup_n _ _ _ (by decide), jup_ss, jup_n _ _ _ (by decide), g26]
      · rw [jup_n _ _ _ (by decide), jup_ss]
    · rw [if_neg c2, if_neg c2]
      refine ⟨jup hX 20 1 1, g, p, hpl, by rw [jup_n _ _ _ (by decide)]; exact px, pg, k1, by rw [jup_n _ _ _ (by decide)], k0, Or.inr ⟨jgd_pos (Or.inl rfl), ?_⟩⟩
      show (if (0 : Int) = 0 then _ else _) = _
      rw [if_pos rfl]
      unfold f_M_readAll_j70
      rw [if_pos rfl]
theorem or_tab : ∀ r : Nat, r < 16 → ∀ i : Nat, i < 4 → r < 2 ^ i → jor (r : Int) (jshl 1 (i : Int)) = ((r + 2 ^ i : Nat) : Int) := by decide +kernel
/-- the rights' letters: place and sum after i of them -/
def rgS (T : Nat → Int) (L p : Nat) : Nat → Nat × Nat
  | 0 => (p, 0)
  | i + 1 => if ltx T L (rgS T L p i).1 = rlt i then ((rgS T L p i).1 + 1, (rgS T L p i).2 + 2 ^ i) else rgS T L p i
theorem rlt_v : ∀ i : Nat, i < 4 → 32 ≤ rlt i := by decide
theorem rgS_b (T : Nat → Int) {L p : Nat} (hp : p ≤ L) : ∀ i, i ≤ 4 → (rgS T L p i).1 ≤ L ∧ (rgS T L p i).2 < 2 ^ i := by
  intro i
  induction i with
  | zero => intro _; exact ⟨hp, Nat.one_pos⟩
  | succ i ih =>
    intro hi
    have h := ih (by omega)
    unfold rgS
    rw [Nat.pow_succ]
    by_cases c : ltx T L (rgS T L p i).1 = rlt i
    · rw [if_pos c]
      have := lt_in (rlt_v i (by omega)) c
      exact ⟨by show (rgS T L p i).1 + 1 ≤ L; omega, by show (rgS T L p i).2 + 2 ^ i < 2 ^ i * 2; omega⟩
    · rw [if_neg c]; exact ⟨h.1, by omega⟩
theorem rg_x {T : Nat → Int} {L : Nat} (hT : okT T L) {h : jH} {p : Nat} (tx : TxX h T L) (px : h 17 2 = (p : Int)) (hpl : p ≤ L) (h0 : h 20 2 = 0) :
    ∃ h', f_Rd_takeRights_lp13 (fun l6 h7 => some (if h7 20 2 = 0 then (0, h7) else (1, h7))) 1000 0 h = some ((if (rgS T L p 4).2 = 0 then 0 else 1), h') ∧ KpX h h' [2] ∧ h' 17 3 = h 17 3 ∧ h' 17 2 = ((rgS T L p 4).1 : Int) ∧ h' 20 2 = ((rgS T L p 4).2 : Int) := by
  obtain ⟨g, ⟨g1, g2, g3, g4⟩, t⟩ := lp_all (fun n (i : Nat) (g : jH) => f_Rd_takeRights_lp13 (fun l6 h7 => some (if h7 20 2 = 0 then (0, h7) else (1, h7))) n (i : Int) g) 4 (fun h7 => some (if h7 20 2 = 0 then (0, h7) else (1, h7)))
    (fun i g => KpX h g [2] ∧ g 17 3 = h 17 3 ∧ g 17 2 = ((rgS T L p i).1 : Int) ∧ g 20 2 = ((rgS T L p i).2 : Int)) (by
      intro n g hg
      show f_Rd_takeRights_lp13 _ (n + 1) _ g = _
      rw [f_Rd_takeRights_lp13, if_pos (by omega)]) (by
      intro n i g hi hg
      show ∃ s', _ ∧ f_Rd_takeRights_lp13 _ (n + 1) _ g = f_Rd_takeRights_lp13 _ n ((i + 1 : Nat) : Int) s'
      obtain ⟨g1, g2, g3, g4⟩ := hg
      have b := rgS_b T hpl i (by omega)
      have hL := hT.1
      rw [f_Rd_takeRights_lp13, if_neg (by omega), rlt_ok g hi, obs, take_x hT (TxX_f tx g1.1) g3 b.1, obs, jadd_eq (by omega) (by omega)]
      by_cases c : ltx T L (rgS T L p i).1 = rlt i
      · rw [if_pos c]
        have es : rgS T L p (i + 1) = ((rgS T L p i).1 + 1, (rgS T L p i).2 + 2 ^ i) := by rw [rgS, if_pos c]
        rw [es]
        have h2i : 2 ^ i ≤ 8 := by
          have : ∀ i : Nat, i < 4 → 2 ^ i ≤ 8 := by decide
          exact this i hi
        refine ⟨jup (jup g 17 2 (((rgS T L p i).1 + 1 : Nat) : Int)) 20 2 (((rgS T L p i).2 + 2 ^ i : Nat) : Int), ⟨KpX_t g1 (KpX_t (KpX_17 g 2 _ _) (KpX_20 _ _ (List.mem_cons_self ..))), ?_, ?_, jup_ss _ _ _ _⟩, ?_⟩
        · rw [jup_n _ _ _ (by decide), jup_sn _ _ _ (by decide)]; exact g2
        · rw [jup_n _ _ _ (by decide), jup_ss]
        · show f_Rd_takeRights_lp13 _ n _ (if (1 : Int) = 0 then _ else _) = _
          rw [if_neg (by decide)]
          show f_Rd_takeRights_lp13 _ n _ (jup (jup g 17 2 (((rgS T L p i).1 + 1 : Nat) : Int)) 20 2 (jor ((jup g 17 2 (((rgS T L p i).1 + 1 : Nat) : Int)) 20 2) (jshl 1 (i : Int)))) = _
          rw [jup_n (a := 17) (b := 20) _ _ _ (by decide), g4, or_tab _ (by omega) i hi b.2]
          rfl
      · rw [if_neg c]
        have es : rgS T L p (i + 1) = rgS T L p i := by rw [rgS, if_neg c]
        rw [es]
        exact ⟨g, ⟨g1, g2, g3, g4⟩, rfl⟩) h 1000 ⟨KpX_0 h _, rfl, px, h0⟩ (by omega)
  refine ⟨g, ?_, g1, g2, g3, g4⟩
  have t' : f_Rd_takeRights_lp13 (fun l6 h7 => some (if h7 20 2 = 0 then (0, h7) else (1, h7))) 1000 0 h = some (if g 20 2 = 0 then (0, g) else (1, g)) := t
  rw [t', g4]
  by_cases c : (rgS T L p 4).2 = 0
  · rw [if_pos (by omega), if_pos c]
  · rw [if_neg (by omega), if_neg c]
theorem rg_1 {T : Nat → Int} {L : Nat} (hT : okT T L) {h : jH} {p i : Nat} (hi : i < 4) (tm : TxM h T L) (pm : h 24 11 = ((rgS T L p i).1 : Int)) (hpl : p ≤ L) {c : Int} (ec : c = rlt i) :
    ∃ v, f_M_is h c = some (v, jup h 24 11 ((rgS T L p (i + 1)).1 : Int)) ∧ (if v = 0 then (((rgS T L p i).2 : Nat) : Int) else jadd ((rgS T L p i).2 : Int) ((2 ^ i : Nat) : Int)) = ((rgS T L p (i + 1)).2 : Int) := by
  have b := rgS_b T hpl i (by omega)
  have h2i : 2 ^ i ≤ 8 := by
    have : ∀ i : Nat, i < 4 → 2 ^ i ≤ 8 := by decide
    exact this i hi
  rw [is_m hT tm pm b.1 (by rw [ec]; exact rlt_v i hi), ec]
  by_cases d : ltx T L (rgS T L p i).1 = rlt i
  · have es : rgS T L p (i + 1) = ((rgS T L p i).1 + 1, (rgS T L p i).2 + 2 ^ i) := by rw [rgS, if_pos d]
    rw [if_pos d, es]
    refine ⟨1, rfl, ?_⟩
    rw [if_neg (by decide), jadd_eq (by omega) (by omega)]; rfl
  · have es : rgS T L p (i + 1) = rgS T L p i := by rw [rgS, if_neg d]
    rw [if_neg d, es]
    refine ⟨0, ?_, by rw [if_pos rfl]⟩
    rw [← pm, jup_id]
theorem rg_m {T : Nat → Int} {L : Nat} (hT : okT T L) {h : jH} {p : Nat} (tm : TxM h T L) (pm : h 24 11 = (p : Int)) (hpl : p ≤ L) :
    ∃ h', (f_M_is h 75).bind (fun v2 => f_M_readRights_j36 v2.2 (if v2.1 = 0 then 0 else 1)) = some ((if (rgS T L p 4).2 = 0 then 0 else 1), h') ∧ KpM h h' [27] ∧ h' 24 11 = ((rgS T L p 4).1 : Int) ∧ h' 27 303 = ((rgS T L p 4).2 : Int) := by
  have k : ∀ (g : jH) (v : Int), KpM g (jup g 24 11 v) [27] := fun g v => KpM_24 g v (Or.inl rfl) _
  obtain ⟨v0, a0, b0⟩ := rg_1 hT (i := 0) (by decide) tm pm hpl (c := 75) (by decide)
  rw [a0, obs]
  have e0 : (if v0 = 0 then (0 : Int) else 1) = ((rgS T L p 1).2 : Int) := by
    rw [← b0]
    by_cases c : v0 = 0
    · rw [if_pos c, if_pos c]; rfl
    · rw [if_neg c, if_neg c]; show (1 : Int) = jadd ((0 : Nat) : Int) ((2 ^ 0 : Nat) : Int); decide
  show ∃ h', f_M_readRights_j36 (jup h 24 11 ((rgS T L p 1).1 : Int)) (if v0 = 0 then 0 else 1) = _ ∧ _
  rw [e0]
  unfold f_M_readRights_j36
  have t1 := TxM_f tm (k h ((rgS T L p 1).1 : Int)).1
  obtain ⟨v1, a1, b1⟩ := rg_1 hT (i := 1) (by decide) t1 (jup_ss _ _ _ _) hpl (c := 81) (by decide)
  rw [a1, obs, jup_jup]
  show ∃ h', f_M_readRights_j53 (jup h 24 11 ((rgS T L p 2).1 : Int)) (if v1 = 0 then ((rgS T L p 1).2 : Int) else jadd ((rgS T L p 1).2 : Int) 2) = _ ∧ _
  rw [show (if v1 = 0 then ((rgS T L p 1).2 : Int) else jadd ((rgS T L p 1).2 : Int) 2) = ((rgS T L p 2).2 : Int) from b1]
  unfold f_M_readRights_j53
  have t2 := TxM_f tm (k h ((rgS T L p 2).1 : Int)).1
  obtain ⟨v2, a2, b2⟩ := rg_1 hT (i := 2) (by decide) t2 (jup_ss _ _ _ _) hpl (c := 107) (by decide)
  rw [a2, obs, jup_jup]
  show ∃ h', f_M_readRights_j70 (jup h 24 11 ((rgS T L p 3).1 : Int)) (if v2 = 0 then ((rgS T L p 2).2 : Int) else jadd ((rgS T L p 2).2 : Int) 4) = _ ∧ _
  rw [show (if v2 = 0 then ((rgS T L p 2).2 : Int) else jadd ((rgS T L p 2).2 : Int) 4) = ((rgS T L p 3).2 : Int) from b2]
  unfold f_M_readRights_j70
  have t3 := TxM_f tm (k h ((rgS T L p 3).1 : Int)).1
  obtain ⟨v3, a3, b3⟩ := rg_1 hT (i := 3) (by decide) t3 (jup_ss _ _ _ _) hpl (c := 113) (by decide)
  rw [a3, obs, jup_jup]
  show ∃ h', f_M_readRights_j88 (jup h 24 11 ((rgS T L p 4).1 : Int)) (if v3 = 0 then ((rgS T L p 3).2 : Int) else jadd ((rgS T L p 3).2 : Int) 8) = _ ∧ _
  rw [show (if v3 = 0 then ((rgS T L p 3).2 : Int) else jadd ((rgS T L p 3).2 : Int) 8) = ((rgS T L p 4).2 : Int) from b3]
  unfold f_M_readRights_j88
  rw [jgd_pos (by decide)]
  refine ⟨jup (jup h 24 11 ((rgS T L p 4).1 : Int)) 27 303 ((rgS T L p 4).2 : Int), ?_, KpM_t (k h _) (KpM_st _ _ (Or.inr (Or.inl rfl)) (List.mem_cons_self ..)), ?_, jup_ss _ _ _ _⟩
  · by_cases c : (rgS T L p 4).2 = 0
    · rw [if_pos (by omega), if_pos c]
    · rw [if_neg (by omega), if_neg c]
  · rw [jup_n _ _ _ (by decide), jup_ss]
theorem rg_st {T : Nat → Int} {L : Nat} (hT : okT T L) {hX hM : jH} {p : Nat} (tx : TxX hX T L) (tm : TxM hM T L) (px : hX 17 2 = (p : Int)) (pm : hM 24 11 = (p : Int)) (hpl : p ≤ L) (h0 : hX 20 2 = 0) :
    ∃ hX' hM' p' v, p' ≤ L ∧ hX' 17 2 = ((p' : Nat) : Int) ∧ hM' 24 11 = (p' : Int) ∧ KpX hX hX' [2] ∧ hX' 17 3 = hX 17 3 ∧ KpM hM hM' [27] ∧ (v = 0 ∨ v = 1) ∧ f_Rd_takeRights hX = some (v, hX') ∧ f_M_readRights hM = some (v, hM') ∧ hX' 20 2 = hM' 27 303 ∧ 0 ≤ hX' 20 2 ∧ hX' 20 2 ≤ 15 := by
  have hL := hT.1
  unfold f_Rd_takeRights f_M_readRights
  have k0 : KpM hM (jup hM 27 303 0) [27] := KpM_st hM _ (Or.inr (Or.inl rfl)) (List.mem_cons_self ..)
  have pg : jup hM 27 303 0 24 11 = (p : Int) := by rw [jup_n _ _ _ (by decide)]; exact pm
  rw [take_x hT tx px hpl, obs, jgd_pos (by decide), is_m hT (TxM_f tm k0.1) pg hpl (by decide), obs]
  by_cases c : ltx T L p = 45
  · have hpL := lt_in (by decide) c
    rw [if_pos c, if_pos c]
    refine ⟨jup hX 17 2 ((p + 1 : Nat) : Int), jup (jup hM 27 303 0) 24 11 ((p + 1 : Nat) : Int), p + 1, 1, by omega, jup_ss _ _ _ _, jup_ss _ _ _ _, KpX_17 _ _ _ _, jup_sn _ _ _ (by decide), KpM_t k0 (KpM_24 _ _ (Or.inl rfl) _), Or.inr rfl, ?_, ?_, ?_, ?_, ?_⟩
    · show (if (1 : Int) = 0 then _ else _) = _
      rw [if_neg (by decide)]
    · show (if (1 : Int) = 0 then _ else _) = _
      rw [if_neg (by decide)]
    · rw [jup_n _ _ _ (by decide), h0, jup_n _ _ _ (by decide), jup_ss]
    · rw [jup_n _ _ _ (by decide), h0]; decide
    · rw [jup_n _ _ _ (by decide), h0]; decide
  · rw [if_neg c, if_neg c]
    obtain ⟨x', a1, a2, a3, a4, a5⟩ := rg_x hT tx px hpl h0
    obtain ⟨m', b1, b2, b3, b4⟩ := rg_m hT (TxM_f tm k0.1) pg hpl
    have bb := rgS_b T hpl 4 (by decide)
    refine ⟨x', m', (rgS T L p 4).1, (if (rgS T L p 4).2 = 0 then 0 else 1), bb.1, a4, b3, a2, a3, KpM_t k0 b2, by split <;> simp, ?_, ?_, by rw [a5, b4], by omega, by omega⟩
    · show (if (0 : Int) = 0 then _ else _) = _
      rw [if_pos rfl]; exact a1
    · show (if (0 : Int) = 0 then _ else _) = _
      rw [if_pos rfl]; exact b1
theorem ps_st {T : Nat → Int} {L : Nat} (hT : okT T L) {hX hM : jH} {p : Nat} (tx : TxX hX T L) (tm : TxM hM T L) (px : hX 17 2 = (p : Int)) (pm : hM 24 11 = (p : Int)) (hpl : p ≤ L) (h0 : hX 20 3 = -1) (h1 : hX 17 3 = -1) :
    ∃ hX' hM' p' v, p' ≤ L ∧ hX' 17 2 = ((p' : Nat) : Int) ∧ hM' 24 11 = (p' : Int) ∧ KpX hX hX' [3] ∧ KpM hM hM' [28] ∧ (v = 0 ∨ v = 1) ∧ f_Rd_takePassed hX = some (v, hX') ∧ f_M_readFile hM = some (v, hM') ∧ (v = 1 → hX' 20 3 = hM' 28 303 ∧ -1 ≤ hX' 20 3 ∧ hX' 20 3 ≤ 7 ∧ ((hX' 17 3 = -1 ∧ hM' 24 12 = 0) ∨ (hX' 17 3 = hM' 24 12 - 49 ∧ (hM' 24 12 = 51 ∨ hM' 24 12 = 54)))) := by
  have hL := hT.1
  unfold f_Rd_takePassed f_M_readFile
  have k0 : KpM hM (jup (jup hM 28 303 (-1)) 24 12 0) [28] := KpM_t (KpM_st hM _ (Or.inr (Or.inr (Or.inl rfl))) (List.mem_cons_self ..)) (KpM_24 _ _ (Or.inr rfl) _)
  generalize hg : jup (jup hM 28 303 (-1)) 24 12 0 = g at k0
  have pg : g 24 11 = (p : Int) := by rw [← hg, jup_sn _ _ _ (by decide), jup_n _ _ _ (by decide)]; exact pm
  have g28 : g 28 303 = -1 := by rw [← hg, jup_n _ _ _ (by decide), jup_ss]
  have g12 : g 24 12 = 0 := by rw [← hg, jup_ss]
  have tg := TxM_f tm k0.1
  rw [take_x hT tx px hpl, obs, jgd_pos (by decide), is_m hT tg pg hpl (by decide), obs]
  by_cases c : ltx T L p = 45
  · have hpL := lt_in (by decide) c
    rw [if_pos c, if_pos c]
    refine ⟨jup hX 17 2 ((p + 1 : Nat) : Int), jup g 24 11 ((p + 1 : Nat) : Int), p + 1, 1, by omega, jup_ss _ _ _ _, jup_ss _ _ _ _, KpX_17 _ _ _ _, KpM_t k0 (KpM_24 _ _ (Or.inl rfl) _), Or.inr rfl, ?_, ?_, fun _ => ⟨?_, ?_, ?_, Or.inl ⟨?_, ?_⟩⟩⟩
    · show (if (1 : Int) = 0 then _ else _) = _
      rw [if_neg (by decide)]
    · show (if (1 : Int) = 0 then _ else _) = _
      rw [if_neg (by decide)]
    · rw [jup_n _ _ _ (by decide), h0, jup_n _ _ _ (by decide), g28]
    · rw [jup_n _ _ _ (by decide), h0]; decide
    · rw [jup_n _ _ _ (by decide), h0]; decide
    · rw [jup_sn _ _ _ (by decide), h1]
    · rw [jup_sn _ _ _ (by decide), g12]
  · rw [if_neg c, if_neg c]
    have lb : ltm T L p = ltx T L p ∨ (ltm T L p = 0 ∧ ltx T L p = -1) := by
      unfold ltx ltm
      by_cases d : p < L
      · rw [if_pos d, if_pos d]; exact Or.inl rfl
      · rw [if_neg d, if_neg d]; exact Or.inr ⟨rfl, rfl⟩
    show ∃ hX' hM' p' v, p' ≤ L ∧ _ ∧ _ ∧ _ ∧ _ ∧ _ ∧ (if (0 : Int) = 0 then (f_Rd_letter hX).bind _ else _) = _ ∧ (if (0 : Int) = 0 then (f_M_next g).bind _ else _) = _ ∧ _
    rw [if_pos rfl, if_pos rfl, let_x hT tx px, let_m hT tg pg]
    simp only [obs]
    by_cases c1 : ltx T L p < 97
    · rw [if_pos c1, if_pos (show ltm T L p < 97 by omega)]
      exact ⟨hX, g, p, 0, hpl, px, pg, KpX_0 _ _, k0, Or.inl rfl, rfl, rfl, fun q => by cases q⟩
    · rw [if_neg c1, if_neg (show ¬ ltm T L p < 97 by omega)]
      have em : ltm T L p = ltx T L p := by omega
      by_cases c2 : ltx T L p ≤ 104
      · rw [if_pos c2, if_pos (show ltm T L p ≤ 104 by omega), jgd_pos (by decide), em, jsub_eq (by omega) (by omega)]
        have hpL : p < L := lt_pos (T := T) (by omega)
        have ex : jup (jup hX 20 3 (ltx T L p - 97)) 17 2 (jadd ((jup hX 20 3 (ltx T L p - 97)) 17 2) 1) = jup (jup hX 20 3 (ltx T L p - 97)) 17 2 ((p + 1 : Nat) : Int) := by
          rw [jup_n _ _ _ (by decide), px, jadd_eq (by omega) (by omega)]; rfl
        have eg : jup (jup g 28 303 (ltx T L p - 97)) 24 11 (jadd ((jup g 28 303 (ltx T L p - 97)) 24 11) 1) = jup (jup g 28 303 (ltx T L p - 97)) 24 11 ((p + 1 : Nat) : Int) := by
          rw [jup_n _ _ _ (by decide), pg, jadd_eq (by omega) (by omega)]; rfl
        rw [ex, eg]
        generalize hx2 : jup (jup hX 20 3 (ltx T L p - 97)) 17 2 ((p + 1 : Nat) : Int) = x2
        generalize hg2 : jup (jup g 28 303 (ltx T L p - 97)) 24 11 ((p + 1 : Nat) : Int) = g2
        have kx : KpX hX x2 [3] := by rw [← hx2]; exact KpX_t (KpX_20 hX _ (List.mem_cons_self ..)) (KpX_17 _ _ _ _)
        have kg : KpM hM g2 [28] := by rw [← hg2]; exact KpM_t k0 (KpM_t (KpM_st g _ (Or.inr (Or.inr (Or.inl rfl))) (List.mem_cons_self ..)) (KpM_24 _ _ (Or.inl rfl) _))
        have px2 : x2 17 2 = ((p + 1 : Nat) : Int) := by rw [← hx2]; exact jup_ss _ _ _ _
        have pg2 : g2 24 11 = ((p + 1 : Nat) : Int) := by rw [← hg2]; exact jup_ss _ _ _ _
        have fx2 : x2 20 3 = ltx T L p - 97 := by rw [← hx2, jup_n _ _ _ (by decide), jup_ss]
        have fg2 : g2 28 303 = ltx T L p - 97 := by rw [← hg2, jup_n _ _ _ (by decide), jup_ss]
        have t2 := TxX_f tx kx.1
        have u2 := TxM_f tm kg.1
        rw [let_x hT t2 px2, obs, let_m hT u2 pg2, obs]
        have lb2 : -1 ≤ ltx T L (p + 1) ∧ ltx T L (p + 1) ≤ 126 := by
          unfold ltx
          by_cases d : p + 1 < L
          · rw [if_pos d]; have := hT.2 (p + 1) d; omega
          · rw [if_neg d]; omega
        rw [jsub_eq (by omega) (by omega)]
        generalize hx3 : jup x2 17 3 (ltx T L (p + 1) - 49) = x3
        generalize hg3 : jup g2 24 12 (ltm T L (p + 1)) = g3
        have kx3 : KpX hX x3 [3] := by rw [← hx3]; exact KpX_t kx (KpX_17 _ _ _ _)
        have kg3 : KpM hM g3 [28] := by rw [← hg3]; exact KpM_t kg (KpM_24 _ _ (Or.inr rfl) _)
        have px3 : x3 17 2 = ((p + 1 : Nat) : Int) := by rw [← hx3, jup_sn _ _ _ (by decide)]; exact px2
        have pg3 : g3 24 11 = ((p + 1 : Nat) : Int) := by rw [← hg3, jup_sn _ _ _ (by decide)]; exact pg2
        have rx3 : x3 17 3 = ltx T L (p + 1) - 49 := by rw [← hx3]; exact jup_ss _ _ _ _
        have rg3 : g3 24 12 = ltm T L (p + 1) := by rw [← hg3]; exact jup_ss _ _ _ _
        have fx3 : x3 20 3 = ltx T L p - 97 := by rw [← hx3, jup_n _ _ _ (by decide)]; exact fx2
        have fg3 : g3 28 303 = ltx T L p - 97 := by rw [← hg3, jup_n _ _ _ (by decide)]; exact fg2
        rw [take_x hT (TxX_f tx kx3.1) px3 (by omega), obs, is_m hT (TxM_f tm kg3.1) pg3 (by omega) (by decide), obs]
        have done : ∀ c : Int, (c = 51 ∨ c = 54) → ltx T L (p + 1) = c → KpX hX (jup x3 17 2 ((p + 1 + 1 : Nat) : Int)) [3] ∧ KpM hM (jup g3 24 11 ((p + 1 + 1 : Nat) : Int)) [28] ∧ p + 1 + 1 ≤ L ∧ ((1 : Int) = 1 → jup x3 17 2 ((p + 1 + 1 : Nat) : Int) 20 3 = jup g3 24 11 ((p + 1 + 1 : Nat) : Int) 28 303 ∧ -1 ≤ jup x3 17 2 ((p + 1 + 1 : Nat) : Int) 20 3 ∧ jup x3 17 2 ((p + 1 + 1 : Nat) : Int) 20 3 ≤ 7 ∧ ((jup x3 17 2 ((p + 1 + 1 : Nat) : Int) 17 3 = -1 ∧ jup g3 24 11 ((p + 1 + 1 : Nat) : Int) 24 12 = 0) ∨ (jup x3 17 2 ((p + 1 + 1 : Nat) : Int) 17 3 = jup g3 24 11 ((p + 1 + 1 : Nat) : Int) 24 12 - 49 ∧ (jup g3 24 11 ((p + 1 + 1 : Nat) : Int) 24 12 = 51 ∨ jup g3 24 11 ((p + 1 + 1 : Nat) : Int) 24 12 = 54)))) := by
          intro c hc e
          have hq := lt_in (by omega) e
          have em2 : ltm T L (p + 1) = c := (lt_eq (by omega)).mpr e
          refine ⟨KpX_t kx3 (KpX_17 _ _ _ _), KpM_t kg3 (KpM_24 _ _ (Or.inl rfl) _), by omega, fun _ => ?_⟩
          rw [jup_n _ _ _ (by decide), jup_n _ _ _ (by decide), jup_sn _ _ _ (by decide), jup_sn _ _ _ (by decide), fx3, fg3, rx3, rg3, em2, e]
          exact ⟨rfl, by omega, by omega, Or.inr ⟨rfl, hc⟩⟩
        by_cases d1 : ltx T L (p + 1) = 51
        · rw [if_pos d1, if_pos d1]
          obtain ⟨q1, q2, q3, q4⟩ := done 51 (Or.inl rfl) d1
          refine ⟨jup x3 17 2 ((p + 1 + 1 : Nat) : Int), jup g3 24 11 ((p + 1 + 1 : Nat) : Int), p + 1 + 1, 1, q3, jup_ss _ _ _ _, jup_ss _ _ _ _, q1, q2, Or.inr rfl, ?_, ?_, q4⟩
          · show (if (1 : Int) = 0 then _ else _) = _
            rw [if_neg (by decide)]
          · show (if (1 : Int) = 0 then _ else _) = _
            rw [if_neg (by decide)]
        · rw [if_neg d1, if_neg d1]
          show ∃ hX' hM' p' v, p' ≤ L ∧ _ ∧ _ ∧ _ ∧ _ ∧ _ ∧ (if (0 : Int) = 0 then (f_Rd_takeLetter x3 54).bind _ else _) = _ ∧ (if (0 : Int) = 0 then (f_M_is g3 54).bind _ else _) = _ ∧ _
          rw [if_pos rfl, if_pos rfl, take_x hT (TxX_f tx kx3.1) px3 (by omega), obs, is_m hT (TxM_f tm kg3.1) pg3 (by omega) (by decide), obs]
          by_cases d2 : ltx T L (p + 1) = 54
          · rw [if_pos d2, if_pos d2]
            obtain ⟨q1, q2, q3, q4⟩ := done 54 (Or.inr rfl) d2
            refine ⟨jup x3 17 2 ((p + 1 + 1 : Nat) : Int), jup g3 24 11 ((p + 1 + 1 : Nat) : Int), p + 1 + 1, 1, q3, jup_ss _ _ _ _, jup_ss _ _ _ _, q1, q2, Or.inr rfl, ?_, ?_, q4⟩
            · show some (if (1 : Int) = 0 then _ else _) = _
              rw [if_neg (by decide)]
            · show some (if (1 : Int) = 0 then _ else _) = _
              rw [if_neg (by decide)]
          · rw [if_neg d2, if_neg d2]
            refine ⟨x3, g3, p + 1, 0, by omega, px3, pg3, kx3, kg3, Or.inl rfl, ?_, ?_, fun q => by cases q⟩
            · show some (if (0 : Int) = 0 then _ else _) = _
              rw [if_pos rfl]
            · show some (if (0 : Int) = 0 then _ else _) = _
              rw [if_pos rfl]
      · rw [if_neg c2, if_neg (show ¬ ltm T L p ≤ 104 by omega)]
        exact ⟨hX, g, p, 0, hpl, px, pg, KpX_0 _ _, k0, Or.inl rfl, rfl, rfl, fun q => by cases q⟩
