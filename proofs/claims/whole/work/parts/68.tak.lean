/-! bit sets: who attacks, who may take in passing -/
theorem bt_set (v : Int) {i s : Nat} (hi : i < 64) (hs : s < 64) : bt (jlor v (jlshl 1 (i : Int))) s = true ↔ bt v s = true ∨ s = i := by
  rw [bt_or, bt_shl (by omega) (by omega) s hs]
  simp
def bitsP (v : Int) (P : Nat → Prop) : Prop := ok64 v ∧ ∀ s, s < 64 → (bt v s = true ↔ P s)
theorem bitsP_0 {P : Nat → Prop} (h : ∀ s, s < 64 → ¬ P s) : bitsP 0 P := ⟨ok64_0, fun s hs => by rw [bt_0]; exact ⟨fun q => (by cases q), fun q => absurd q (h s hs)⟩⟩
theorem bitsP_eq {v w : Int} {P : Nat → Prop} (hv : bitsP v P) (hw : bitsP w P) : v = w := by
  refine bt_ext hv.1 hw.1 (fun i hi => ?_)
  have h1 := hv.2 i hi
  have h2 := hw.2 i hi
  by_cases c : P i
  · rw [h1.mpr c, h2.mpr c]
  · have e1 : bt v i = false := by
      cases e : bt v i with
      | false => rfl
      | true => exact absurd (h1.mp e) c
    have e2 : bt w i = false := by
      cases e : bt w i with
      | false => rfl
      | true => exact absurd (h2.mp e) c
    rw [e1, e2]
theorem bitsP_c {v : Int} {P Q : Nat → Prop} (hv : bitsP v P) (e : ∀ s, s < 64 → (P s ↔ Q s)) : bitsP v Q := ⟨hv.1, fun s hs => (hv.2 s hs).trans (e s hs)⟩
theorem bitsP_st {P : Nat → Prop} {i : Nat} {v w : Int} (hi : i < 64) (hv : bitsP v (fun s => s < i ∧ P s)) (hw : (P i ∧ w = jlor v (jlshl 1 (i : Int))) ∨ (¬ P i ∧ w = v)) : bitsP w (fun s => s < i + 1 ∧ P s) := by
  rcases hw with ⟨q, e⟩ | ⟨q, e⟩
  · subst e
    refine ⟨jlor_ok _ _, fun s hs => ?_⟩
    rw [bt_set v hi hs, hv.2 s hs]
    constructor
    · rintro (z | z)
      · exact ⟨by omega, z.2⟩
      · exact ⟨by omega, z ▸ q⟩
    · rintro ⟨z1, z2⟩
      by_cases c : s = i
      · exact Or.inr c
      · exact Or.inl ⟨by omega, z2⟩
  · subst e
    refine ⟨hv.1, fun s hs => ?_⟩
    rw [hv.2 s hs]
    constructor
    · rintro ⟨z1, z2⟩; exact ⟨by omega, z2⟩
    · rintro ⟨z1, z2⟩
      refine ⟨?_, z2⟩
      by_cases c : s = i
      · exact absurd (c ▸ z2) q
      · omega
theorem aoM_ok (h : jH) {p t : Nat} {side : Int} (hp : p < 304) (ht : t < 64) (hB : BR (mb h p)) (hS : side = 0 ∨ side = 1) :
    ∃ v, f_M_attackersOf h (p : Int) (t : Int) side = some v ∧ bitsP v (fun s => sd (mb h p s) = side ∧ attR (mb h p) s t) := by
  unfold f_M_attackersOf
  obtain ⟨s', h1, h2⟩ := lp_all (fun n (i : Nat) (s : Int) => f_M_attackersOf_lp6 h (p : Int) (t : Int) side (fun l8 l9 => some l8) n s (i : Int)) 64 (fun s => some s)
    (fun i v => bitsP v (fun s => s < i ∧ (sd (mb h p s) = side ∧ attR (mb h p) s t))) (by
      intro n s hs
      show f_M_attackersOf_lp6 _ _ _ _ _ (n + 1) s _ = _
      rw [f_M_attackersOf_lp6, if_pos (by omega)]) (by
      intro n i v hi hv
      show ∃ s', _ ∧ f_M_attackersOf_lp6 _ _ _ _ _ (n + 1) v _ = f_M_attackersOf_lp6 _ _ _ _ _ n s' ((i + 1 : Nat) : Int)
      rw [f_M_attackersOf_lp6, if_neg (by omega), io_ok h hp hi hB hS, jadd_eq (a := (i : Int)) (by omega) (by omega)]
      by_cases c : sd (mb h p i) = side
      · rw [if_pos c, obs, if_neg (show ¬ (1 : Int) = 0 by decide)]
        obtain ⟨z, z1, z2, z3⟩ := da_ok h hp hi ht hB
        rw [z1, obs]
        refine ⟨_, bitsP_st hi hv ?_, rfl⟩
        by_cases d : z = 0
        · right; rw [if_pos d]; refine ⟨fun q => ?_, rfl⟩; have := z3.mpr q.2; omega
        · left; rw [if_neg d]; exact ⟨⟨c, z3.mp (by omega)⟩, rfl⟩
      · rw [if_neg c, obs, if_pos (show (0 : Int) = 0 from rfl)]
        exact ⟨v, bitsP_st hi hv (Or.inr ⟨fun q => c q.1, rfl⟩), rfl⟩) 0 1000 (bitsP_0 (fun s _ q => absurd q.1 (Nat.not_lt_zero _))) (by omega)
  exact ⟨s', h2, bitsP_c h1 (fun s hs => ⟨fun q => q.2, fun q => ⟨hs, q⟩⟩)⟩
theorem aoX_ok (h : jH) (r : Nat) {t : Nat} {side : Int} (hB : BR (h (r + 1))) (ht : t < 64) (hS : side = 0 ∨ side = 1) : ∃ v, f_Bd_attacksOn r h (t : Int) side = some v ∧ bitsP v (fun s => sd (h (r + 1) s) = side ∧ attR (h (r + 1)) s t) := by
  obtain ⟨v, v1, v2, v3⟩ := ao_ok h r hB ht hS
  exact ⟨v, v1, v2, fun s hs => (v3 s hs).trans (atk_iff hB ht hs hS)⟩
/-- the squares of those who may take in passing -/
def tkR (b : Nat → Int) (side file : Int) (s : Nat) : Prop := sd (b s) = side ∧ ∃ x, x < 64 ∧ beh b side file s x ∧ safe b side file s x
theorem tkR_c {b b' : Nat → Int} (h : EqB b b') (hB : BR b) {side file : Int} (hS : side = 0 ∨ side = 1) {s : Nat} (hs : s < 64) : tkR b side file s ↔ tkR b' side file s := by
  unfold tkR
  rw [h s hs]
  constructor
  · rintro ⟨q, x, hx, q1, q2⟩; exact ⟨q, x, hx, (beh_c h hs hx).mp q1, safe_c1 h hB hS hs hx q2⟩
  · rintro ⟨q, x, hx, q1, q2⟩; exact ⟨q, x, hx, (beh_c h hs hx).mpr q1, safe_c1 (EqB_sym h) (BR_c h hB) hS hs hx q2⟩
theorem jup_jup (h : jH) (a k : Nat) (v w : Int) : jup (jup h a k v) a k w = jup h a k w := by
  apply jH_ext
  intro a' k'
  by_cases e : a' = a
  · subst e
    rw [jup_s, jup_s, jup_s]
    by_cases e2 : k' = k
    · rw [if_pos e2, if_pos e2]
    · rw [if_neg e2, if_neg e2, if_neg e2]
  · rw [jup_n _ _ _ e, jup_n _ _ _ e, jup_n _ _ _ e]
theorem mb_e {h g : jH} (e : g 25 = h 25) (p : Nat) : mb g p = mb h p := by unfold mb; rw [e]
theorem ft_ok (h : jH) {p : Nat} (hp : p < 304) (hP : PosM h p) : ∃ w, f_M_findTakers h (p : Int) = some (jup h 30 p w) ∧ bitsP w (tkR (mb h p) (h 26 p) (h 28 p)) := by
  have hP0 := hP
  obtain ⟨hB, ⟨hS, hr0, hr1, hf0, hf1⟩, hK, hpw, hrg, hfl⟩ := hP
  have o : ∀ w a, a ≠ 30 → jup h 30 p w a = h a := fun w a ha => jup_n _ _ _ ha
  unfold f_M_findTakers
  rw [jgd_pos (by omega), jgd_pos (by omega), Int.toNat_natCast, o 0 28 (by decide), o 0 26 (by decide)]
  by_cases cf : 0 ≤ h 28 p
  · rw [if_pos cf, jgd_pos (by omega)]
    unfold f_M_findTakers_j36 f_M_findTakers_j43
    rw [jgd_pos (by omega), Int.toNat_natCast, o 0 28 (by decide), jadd_eq (by split <;> omega) (by split <;> omega)]
    obtain ⟨x, hx, ex⟩ : ∃ x : Nat, x < 64 ∧ (x : Int) = (if h 26 p = 0 then 40 else 16) + h 28 p := ⟨((if h 26 p = 0 then 40 else 16) + h 28 p).toNat, by split <;> omega, by split <;> omega⟩
    rw [← ex]
    have ux : ∀ s y, y < 64 → beh (mb h p) (h 26 p) (h 28 p) s y → y = x := fun s y hy q => by have := q.2.2.1; omega
    obtain ⟨g, ⟨w, w1, w2⟩, h2⟩ := lp_all (fun n (i : Nat) (g : jH) => f_M_findTakers_lp46 (p : Int) (x : Int) (fun l23 h24 => some h24) n (i : Int) g) 64 (fun g => some g)
      (fun i g => ∃ w, g = jup h 30 p w ∧ bitsP w (fun s => s < i ∧ tkR (mb h p) (h 26 p) (h 28 p) s)) (by
        intro n s hs
        show f_M_findTakers_lp46 _ _ _ (n + 1) _ s = _
        rw [f_M_findTakers_lp46, if_pos (by omega)]) (by
        intro n i g hi hg
        show ∃ s', _ ∧ f_M_findTakers_lp46 _ _ _ (n + 1) _ g = f_M_findTakers_lp46 _ _ _ n ((i + 1 : Nat) : Int) s'
        obtain ⟨w, w1, w2⟩ := hg
        have e25 : mb g p = mb h p := mb_e (by rw [w1]; exact o w 25 (by decide)) p
        have e26 : g 26 = h 26 := by rw [w1]; exact o w 26 (by decide)
        have e27 : g 27 = h 27 := by rw [w1]; exact o w 27 (by decide)
        have e28 : g 28 = h 28 := by rw [w1]; exact o w 28 (by decide)
        have e30 : g 30 p = w := by rw [w1]; exact jup_ss _ _ _ _
        have hPg : PosM g p := by unfold PosM; rw [e25, e26, e27, e28]; exact hP0
        have hBg : BR (mb g p) := by rw [e25]; exact hB
        have no : ¬ tkR (mb h p) (h 26 p) (h 28 p) i → ∃ s', (∃ w, s' = jup h 30 p w ∧ bitsP w (fun s => s < i + 1 ∧ tkR (mb h p) (h 26 p) (h 28 p) s)) ∧ f_M_findTakers_j101_46 (f_M_findTakers_lp46 (p : Int) (x : Int) (fun l23 h24 => some h24) n) (fun l23 h24 => some h24) g g (p : Int) (x : Int) (i : Int) = f_M_findTakers_lp46 (p : Int) (x : Int) (fun l23 h24 => some h24) n ((i + 1 : Nat) : Int) s' := by
          intro q
          refine ⟨jup h 30 p w, ⟨w, rfl, bitsP_st hi w2 (Or.inr ⟨q, rfl⟩)⟩, ?_⟩
          unfold f_M_findTakers_j101_46 f_M_findTakers_j102_46 f_M_findTakers_j133_46
          rw [if_pos (show (0 : Int) = 0 from rfl), jgd_pos (by omega), jgd_pos (by omega), Int.toNat_natCast, e30, w1, jup_jup, jadd_eq (by omega) (by omega)]
          rfl
        rw [f_M_findTakers_lp46, if_neg (by omega), jgd_pos (by omega), Int.toNat_natCast, e28, if_neg (by omega), jgd_pos (by omega), io_ok g hp hi hBg (by rw [e26]; exact hS), e25, e26]
        by_cases c : sd (mb h p i) = h 26 p
        · rw [if_pos c, obs, if_neg (show ¬ (1 : Int) = 0 by decide)]
          obtain ⟨z, z1, z2, z3⟩ := ib_ok g hp hi hx hBg (by rw [e28]; exact hf1)
          rw [e25, e26, e28] at z3
          rw [z1, obs]
          by_cases d : z = 0
          · rw [if_pos d]
            refine no (fun q => ?_)
            obtain ⟨q1, y, hy, q2, q3⟩ := q
            have := ux i y hy q2; subst this
            have := z3.mpr q2; omega
          · rw [if_neg d]
            have hb := z3.mp (by omega)
            have fb := fil_beh hS hB hi hx hf1 hfl c hb
            obtain ⟨u, u1, u2, u3⟩ := sf_ok g 0 hp hi hx hPg (by rw [e25, e26]; exact c) (by rw [e25, e26, fb.2.1]; exact sd_0 hS)
            rw [e25, e26, e28] at u3
            rw [u1, obs]
            show ∃ s', _ ∧ (if u = 0 then _ else _) = _
            by_cases e : u = 0
            · rw [if_pos e]
              refine no (fun q => ?_)
              obtain ⟨q1, y, hy, q2, q3⟩ := q
              have := ux i y hy q2; subst this
              have := u3.mpr q3; omega
            · rw [if_neg e]
              refine ⟨jup h 30 p (jlor w (jlshl 1 (i : Int))), ⟨_, rfl, bitsP_st hi w2 (Or.inl ⟨⟨c, x, hx, hb, u3.mp (by omega)⟩, rfl⟩)⟩, ?_⟩
              unfold f_M_findTakers_j102_46 f_M_findTakers_j133_46
              rw [if_neg (show ¬ (1 : Int) = 0 by decide), jgd_pos (by omega), jgd_pos (by omega), Int.toNat_natCast]
              show f_M_findTakers_lp46 _ _ _ _ _ (jup g 30 p (jlor (g 30 p) _)) = _
              rw [e30, w1, jup_jup, jadd_eq (by omega) (by omega)]
              rfl
        · rw [if_neg c, obs, if_pos (show (0 : Int) = 0 from rfl)]
          exact no (fun q => c q.1)) (jup h 30 p 0) 1000 ⟨0, rfl, bitsP_0 (fun s _ q => absurd q.1 (Nat.not_lt_zero _))⟩ (by omega)
    refine ⟨w, ?_, bitsP_c w2 (fun s hs => ⟨fun q => q.2, fun q => ⟨hs, q⟩⟩)⟩
    rw [← w1]; exact h2
  · rw [if_neg cf]
    unfold f_M_findTakers_j43
    refine ⟨0, ?_, bitsP_0 (fun s hs q => ?_)⟩
    · rw [show (1000 : Nat) = 999 + 1 from rfl, f_M_findTakers_lp46, if_neg (by omega), jgd_pos (by omega), Int.toNat_natCast, o 0 28 (by decide), if_pos (by omega)]
    · obtain ⟨q1, y, hy, q2, q3⟩ := q
      exact cf q2.2.1
theorem pwn_pc {p side : Int} (h0 : 0 ≤ p) (h1 : p ≤ 12) (hS : side = 0 ∨ side = 1) : p = (if side = 0 then 1 else 1 + 6) ↔ kd p = 1 ∧ sd p = side := by
  unfold kd sd
  rcases hS with e | e <;> subst e
  · rw [if_pos rfl]; split <;> split <;> (try split) <;> omega
  · rw [if_neg (by decide)]; split <;> split <;> (try split) <;> omega
theorem shf_inv : ∀ s : Nat, s < 64 → ∀ x : Nat, x < 64 → ∀ e : Nat, e < 2 → (shf (s : Int) (-1) (if e = 0 then 1 else -1) = (x : Int) ↔ shf (x : Int) 1 (if e = 0 then -1 else 1) = (s : Int)) ∧ (shf (s : Int) 1 (if e = 0 then 1 else -1) = (x : Int) ↔ shf (x : Int) (-1) (if e = 0 then -1 else 1) = (s : Int)) := by decide +kernel
theorem pt_ok (h : jH) (hP : PosX h) : ∃ w, f_Bd_passingTakers h = some (w, h) ∧ bitsP w (tkR (h 3) (h 2 1) (h 2 3)) := by
  have hP0 := hP
  obtain ⟨hB, ⟨hS, hr0, hr1, hf0, hf1⟩, hK, hpw, hrg, hfl⟩ := hP
  unfold f_Bd_passingTakers
  rw [psq_ok h hS hf0 hf1, obs]
  by_cases cf : h 2 3 = -1
  · have e : psq (h 2 1) (h 2 3) = -1 := by unfold psq; rw [if_pos cf]
    rw [e, if_pos rfl]
    refine ⟨0, rfl, bitsP_0 (fun s hs q => ?_)⟩
    obtain ⟨q1, y, hy, q2, q3⟩ := q
    have := q2.2.1; omega
  · obtain ⟨x, hx, ex⟩ : ∃ x : Nat, x < 64 ∧ (x : Int) = (if h 2 1 = 0 then 40 else 16) + h 2 3 := ⟨((if h 2 1 = 0 then 40 else 16) + h 2 3).toNat, by split <;> omega, by split <;> omega⟩
    have ep : psq (h 2 1) (h 2 3) = (x : Int) := by unfold psq; rw [if_neg cf]; exact ex.symm
    have ux : ∀ s y, y < 64 → beh (h 3) (h 2 1) (h 2 3) s y → y = x := fun s y hy q => by have := q.2.2.1; omega
    obtain ⟨k, hk⟩ := kgs_uk hK hS
    rw [ep, if_neg (by omega), ks_ok h 2 hk, obs]
    have hfw : (if h 2 1 = 0 then (1 : Int) else -1) = fwd (h 2 1) := rfl
    have hnf : jneg (fwd (h 2 1)) = -fwd (h 2 1) ∧ -1 ≤ fwd (h 2 1) ∧ fwd (h 2 1) ≤ 1 := by
      have : fwd (h 2 1) = 1 ∨ fwd (h 2 1) = -1 := by unfold fwd; split <;> omega
      refine ⟨jneg_eq (by omega) (by omega), by omega, by omega⟩
    have e0 : (h 3 x) = 0 := (psq_mt hS hf0 hf1 hfl ep.symm).1
    have step : ∀ (kk : Int → Int → jH → Option (Int × jH)) (n : Nat) (v a : Int) (P : Nat → Prop), (a = -1 ∨ a = 1) → bitsP v P → ∃ w, f_Bd_passingTakers_lp26 (x : Int) (k : Int) kk (n + 1) v a h = f_Bd_passingTakers_lp26 (x : Int) (k : Int) kk n w (a + 2) h ∧ bitsP w (fun s => P s ∨ (shf (x : Int) a (-fwd (h 2 1)) = (s : Int) ∧ kd (h 3 s) = 1 ∧ sd (h 3 s) = h 2 1 ∧ (attR (h 3) s x → safe (h 3) (h 2 1) (h 2 3) s x))) := by
      intro kk n v a P ha hv
      rw [f_Bd_passingTakers_lp26, if_neg (by omega), fw_ok, obs, hfw, hnf.1, shf_ok h (by omega) (by omega) (by omega) (by omega) (by omega) (by omega), obs, jadd_eq (by omega) (by omega)]
      rcases shf_rng (x : Int) a (-fwd (h 2 1)) with c | c
      · rw [c, if_pos rfl]
        refine ⟨v, rfl, bitsP_c hv (fun s hs => ⟨Or.inl, fun q => ?_⟩)⟩
        rcases q with q | q
        · exact q
        · have := q.1; omega
      · obtain ⟨y, hy⟩ : ∃ y : Nat, shf (x : Int) a (-fwd (h 2 1)) = (y : Int) := ⟨(shf (x : Int) a (-fwd (h 2 1))).toNat, by omega⟩
        rw [hy] at c
        have hy64 : y < 64 := by omega
        rw [hy, if_neg (by omega), jgd_pos (by omega), po_ok h (by omega) (by omega), obs, Int.toNat_natCast]
        by_cases d : h 3 y = (if h 2 1 = 0 then 1 else 1 + 6)
        · rw [if_pos d]
          have pw := (pwn_pc (hB y hy64).1 (hB y hy64).2 hS).mp d
          have att : attR (h 3) y x := by
            rw [pw_att hB hS hy64 hx pw.1 pw.2]
            have t := shf_inv y hy64 x hx
            rcases hS with e | e
            · have ef : fwd (h 2 1) = 1 := by rw [e]; rfl
              rw [ef] at hy ⊢
              have t0 := t 0 (by decide)
              rw [if_pos rfl, if_pos rfl] at t0
              rcases ha with z | z <;> subst z
              · exact Or.inr (t0.2.mpr hy)
              · exact Or.inl (t0.1.mpr hy)
            · have ef : fwd (h 2 1) = -1 := by rw [e]; rfl
              rw [ef] at hy ⊢
              have t0 := t 1 (by decide)
              rw [if_neg (by decide), if_neg (by decide)] at t0
              rcases ha with z | z <;> subst z
              · exact Or.inr (t0.2.mpr hy)
              · exact Or.inl (t0.1.mpr hy)
          obtain ⟨z, z1, z2, z3⟩ := isb_ok h hy64 hx hP0 hk ⟨pw.2, by rw [e0]; exact sd_0 hS, fun _ _ => att⟩
          rw [z1, obs]
          refine ⟨_, rfl, ?_⟩
          show bitsP (if z = 0 then v else jlor v (jlshl 1 (y : Int))) _
          by_cases e : z = 0
          · rw [if_pos e]
            refine bitsP_c hv (fun s hs => ⟨Or.inl, fun q => ?_⟩)
            rcases q with q | ⟨q1, q2, q3, q4⟩
            · exact q
            · have : s = y := by omega
              subst this
              have := z3.mpr (q4 att); omega
          · rw [if_neg e]
            refine ⟨jlor_ok _ _, fun s hs => ?_⟩
            rw [bt_set v hy64 hs, hv.2 s hs]
            constructor
            · rintro (q | q)
              · exact Or.inl q
              · subst q; exact Or.inr ⟨rfl, pw.1, pw.2, fun _ => z3.mp (by omega)⟩
            · rintro (q | q)
              · exact Or.inl q
              · right; have := q.1; omega
        · rw [if_neg d]
          refine ⟨v, rfl, bitsP_c hv (fun s hs => ⟨Or.inl, fun q => ?_⟩)⟩
          rcases q with q | ⟨q1, q2, q3, q4⟩
          · exact q
          · have : s = y := by omega
            subst this
            exact absurd ((pwn_pc (hB s hs).1 (hB s hs).2 hS).mpr ⟨q2, q3⟩) d
    obtain ⟨v1, a1, b1⟩ := step (fun l12 l13 h14 => some (l12, h14)) 999 0 (-1) (fun _ => False) (Or.inl rfl) (bitsP_0 (fun s _ q => q))
    obtain ⟨v2, a2, b2⟩ := step (fun l12 l13 h14 => some (l12, h14)) 998 v1 1 _ (Or.inr rfl) b1
    refine ⟨v2, ?_, bitsP_c b2 (fun s hs => ?_)⟩
    · show f_Bd_passingTakers_lp26 (x : Int) (k : Int) _ (999 + 1) 0 (-1) h = _
      rw [a1]
      show f_Bd_passingTakers_lp26 (x : Int) (k : Int) _ (998 + 1) v1 1 h = _
      rw [a2, show (998 : Nat) = 997 + 1 from rfl, f_Bd_passingTakers_lp26, if_pos (by decide)]
    · have key : kd (h 3 s) = 1 → sd (h 3 s) = h 2 1 → (attR (h 3) s x ↔ (shf (x : Int) (-1) (-fwd (h 2 1)) = (s : Int) ∨ shf (x : Int) 1 (-fwd (h 2 1)) = (s : Int))) := by
        intro k1 k2
        rw [pw_att hB hS hs hx k1 k2]
        have t := shf_inv s hs x hx
        rcases hS with e | e
        · have ef : fwd (h 2 1) = 1 := by rw [e]; rfl
          rw [ef]
          have t0 := t 0 (by decide)
          rw [if_pos rfl, if_pos rfl] at t0
          rw [t0.1, t0.2]; exact Or.comm
        · have ef : fwd (h 2 1) = -1 := by rw [e]; rfl
          rw [ef]
          have t0 := t 1 (by decide)
          rw [if_neg (by decide), if_neg (by decide)] at t0
          rw [t0.1, t0.2]; exact Or.comm
      constructor
      · rintro ((q | ⟨q1, q2, q3, q4⟩) | ⟨q1, q2, q3, q4⟩)
        · exact q.elim
        · have at1 := (key q2 q3).mpr (Or.inl q1)
          exact ⟨q3, x, hx, ⟨q2, by omega, ex, at1⟩, q4 at1⟩
        · have at1 := (key q2 q3).mpr (Or.inr q1)
          exact ⟨q3, x, hx, ⟨q2, by omega, ex, at1⟩, q4 at1⟩
      · rintro ⟨q1, y, hy, q2, q3⟩
        have := ux s y hy q2; subst this
        rcases (key q2.1 q1).mp q2.2.2.2 with z | z
        · exact Or.inl (Or.inr ⟨z, q2.1, q1, fun _ => q3⟩)
        · exact Or.inr ⟨z, q2.1, q1, fun _ => q3⟩
