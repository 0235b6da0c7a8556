/-! the class: is a move safe, which moves are legal -/
def PosX (h : jH) : Prop := PosR (h 3) (h 2 1) (h 2 2) (h 2 3)
def preM (b : Nat → Int) (side file : Int) (s x : Nat) : Prop := sd (b s) = side ∧ sd (b x) ≠ side ∧ (kd (b s) = 1 → (x : Int) = psq side file → attR b s x)
theorem vs_ok (h : jH) {s x : Nat} (hs : s < 64) (hx : x < 64) (hP : PosX h) (hp : kd (h 3 s) = 1 → (x : Int) = psq (h 2 1) (h 2 3) → attR (h 3) s x) : ∃ v : Nat, f_Bd_victimSquare h (s : Int) (x : Int) = some (v : Int) ∧ vicR (h 3) (h 2 1) (h 2 3) s x v ∧ v < 64 := by
  obtain ⟨hB, ⟨hS, hr0, hr1, hf0, hf1⟩, hK, hpw, hrg, hfl⟩ := hP
  obtain ⟨b0, b1⟩ := hB s hs
  unfold f_Bd_victimSquare
  rw [jgd_pos (by omega), Int.toNat_natCast, kd_ok h b0 b1]
  simp only [obs]
  by_cases c1 : kd (h 3 s) = 1
  · rw [if_pos c1, psq_ok h hS hf0 hf1]
    simp only [obs]
    by_cases c2 : (x : Int) = psq (h 2 1) (h 2 3)
    · rw [if_pos c2, jand7 (by omega) (by omega), jshr3 (by omega) (by omega), sq_ok h (by omega) (by omega) (by omega) (by omega)]
      simp only [obs]
      obtain ⟨z1, z2, z3⟩ := psq_mt hS hf0 hf1 hfl c2
      refine ⟨eps s x, ?_, Or.inl ⟨⟨c1, z2, z3, hp c1 c2⟩, rfl⟩, by unfold eps; omega⟩
      unfold eps
      rw [show 8 * ((s : Int) / 8) + (x : Int) % 8 = ((s / 8 * 8 + x % 8 : Nat) : Int) by omega]
    · rw [if_neg c2]
      exact ⟨x, rfl, Or.inr ⟨fun q => c2 (psq_of q.2.1 q.2.2.1), rfl⟩, hx⟩
  · rw [if_neg c1]
    exact ⟨x, rfl, Or.inr ⟨fun q => c1 q.1, rfl⟩, hx⟩
theorem vic_one {b : Nat → Int} {side file : Int} {s x v v' : Nat} (h : vicR b side file s x v) (h' : vicR b side file s x v') : v' = v := by
  rcases h with ⟨a1, a2⟩ | ⟨a1, a2⟩ <;> rcases h' with ⟨c1, c2⟩ | ⟨c1, c2⟩
  · rw [a2, c2]
  · exact absurd a1 c1
  · exact absurd c1 a1
  · rw [a2, c2]
theorem vic_mt {b : Nat → Int} {side file : Int} {s x v : Nat} (hS : side = 0 ∨ side = 1) (hB : BR b) (hs : s < 64) (hx : x < 64) (hf : file ≤ 7) (hF : fil b side file) (ho : sd (b s) = side) (hv : vicR b side file s x v) : v = x ∨ (b x = 0 ∧ v ≠ x ∧ v ≠ s ∧ b v = (if side = 0 then 7 else 1) ∧ beh b side file s x) := by
  rcases hv with ⟨a1, a2⟩ | ⟨a1, a2⟩
  · obtain ⟨g1, g2, g3, g4, g5⟩ := fil_beh hS hB hs hx hf hF ho a1
    rw [a2]
    exact Or.inr ⟨g2, g5, g4, g1, a1⟩
  · exact Or.inl a2
theorem mv3 (h : jH) (s x v : Nat) : jup (jup (jup h 3 v 0) 3 s 0) 3 x (h 3 s) 3 = mvb (h 3) s x v := by
  funext y
  rw [jup_s, jup_s, jup_s]
  rfl
theorem isb_ok (h : jH) {s x k : Nat} (hs : s < 64) (hx : x < 64) (hP : PosX h) (hk : uk (h 3) (h 2 1) k) (hpre : preM (h 3) (h 2 1) (h 2 3) s x) :
    ∃ z, f_Bd_isSafeBehind h (s : Int) (x : Int) (k : Int) = some (z, h) ∧ (z = 0 ∨ z = 1) ∧ (z = 1 ↔ safe (h 3) (h 2 1) (h 2 3) s x) := by
  obtain ⟨v, v1, v2, v3⟩ := vs_ok h hs hx hP hpre.2.2
  obtain ⟨hB, ⟨hS, hr0, hr1, hf0, hf1⟩, hK, hpw, hrg, hfl⟩ := hP
  obtain ⟨ho, hn, -⟩ := hpre
  have hvm := vic_mt hS hB hs hx hf1 hfl ho v2
  have hsx : s ≠ x := fun e => hn (e ▸ ho)
  unfold f_Bd_isSafeBehind f_Bd_isSafeBehind_j59 f_X_otherSide
  rw [v1]
  simp only [obs]
  rw [jgd_pos (by omega), jgd_pos (by omega), jgd_pos (by omega), jgd_pos (by omega), jgd_pos (by omega), Int.toNat_natCast, Int.toNat_natCast, Int.toNat_natCast]
  have e2 : jup (jup (jup h 3 v 0) 3 s 0) 3 x (h 3 s) 2 = h 2 := by rw [jup_n _ _ _ (by decide), jup_n _ _ _ (by decide), jup_n _ _ _ (by decide)]
  have e3 := mv3 h s x v
  have ek : (if (s : Int) = (k : Int) then (x : Int) else (k : Int)) = ((kmv k s x : Nat) : Int) := by unfold kmv; split <;> split <;> omega
  have hkm : kmv k s x < 64 := by unfold kmv; split; exact hx; exact hk.1
  rw [e2, (side_sub hS).1, ek]
  generalize hg : jup (jup (jup h 3 v 0) 3 s 0) 3 x (h 3 s) = g at e2 e3 ⊢
  have hB' : BR (g (2 + 1)) := by show BR (g 3); rw [e3]; exact BR_mv hB hs
  obtain ⟨y, y1, y2⟩ := ao_zero g 2 hB' hkm (side_sub hS).2
  rw [y1]
  simp only [obs]
  have fin : ∀ z : Int, (z = 0 ∨ z = 1) → f_Bd_isSafeBehind_j79 g (s : Int) (x : Int) (v : Int) (h 3 s) (h 3 v) z = some (z, h) := by
    intro z hz
    unfold f_Bd_isSafeBehind_j79
    rw [jgd_pos (by omega), jgd_pos (by omega), jgd_pos (by omega), jgd_pos hz, Int.toNat_natCast, Int.toNat_natCast, Int.toNat_natCast]
    have : jup (jup (jup g 3 x 0) 3 s (h 3 s)) 3 v (h 3 v) = h := by
      apply jH_ext
      intro a y
      by_cases d : a = 3
      · subst d
        rw [jup_s, jup_s, jup_s, ← hg, jup_s, jup_s, jup_s]
        by_cases d0 : y = v
        · rw [if_pos d0, d0]
        · rw [if_neg d0]
          by_cases d1 : y = s
          · rw [if_pos d1, d1]
          · rw [if_neg d1]
            by_cases d2 : y = x
            · rw [if_pos d2, d2]
              rcases hvm with q | q
              · exact absurd (d2.trans q.symm) d0
              · exact q.1.symm
            · rw [if_neg d2, if_neg d2, if_neg d1, if_neg d0]
      · rw [jup_n _ _ _ d, jup_n _ _ _ d, jup_n _ _ _ d, ← hg, jup_n _ _ _ d, jup_n _ _ _ d, jup_n _ _ _ d]
    rw [this]
  have key : atd (g (2 + 1)) (kmv k s x) (1 - h 2 1) ↔ ¬ safe (h 3) (h 2 1) (h 2 3) s x := by
    show atd (g 3) _ _ ↔ _
    rw [e3]
    constructor
    · intro q q2; exact q2 k v hk v2 q
    · intro q
      apply Classical.byContradiction
      intro q2
      apply q
      intro k' v' hk' hv'
      rw [uk_one hk' hk, vic_one v2 hv']; exact q2
  by_cases c : jcmp y 0 = 0
  · rw [if_pos c, fin 1 (Or.inr rfl)]
    refine ⟨1, rfl, Or.inr rfl, ⟨fun _ => ?_, fun _ => rfl⟩⟩
    apply Classical.byContradiction
    intro q
    exact (y2.mp c) (key.mpr q)
  · rw [if_neg c, fin 0 (Or.inl rfl)]
    exact ⟨0, rfl, Or.inl rfl, ⟨fun q => (by cases q), fun q => absurd (y2.mpr (fun z => key.mp z q)) c⟩⟩
theorem lo_lp (h : jH) {x k : Nat} (hx : x < 64) (hP : PosX h) (hk : uk (h 3) (h 2 1) k) (src : Int) (hpre : ∀ f, f < 64 → bt src f = true → preM (h 3) (h 2 1) (h 2 3) f x) : ∀ (m n : Nat) (lg lf : Int), m < n → bc (bt lf) 64 = m → ok64 lg → (∀ f, f < 64 → bt lf f = true → bt src f = true) → (∀ f, f < 64 → (bt lg f = true ↔ bt src f = true ∧ ¬ bt lf f = true ∧ safe (h 3) (h 2 1) (h 2 3) f x)) →
    ∃ v, f_Mt_legalOf_lp12 (x : Int) (k : Int) (fun l10 l11 l12 h13 => some (l10, h13)) n lg lf (m : Int) h = some (v, h) ∧ ok64 v ∧ ∀ f, f < 64 → (bt v f = true ↔ bt src f = true ∧ safe (h 3) (h 2 1) (h 2 3) f x) := by
  intro m
  induction m with
  | zero =>
    intro n lg lf hn hm hl hsub hb
    obtain ⟨n', rfl⟩ : ∃ n', n = n' + 1 := ⟨n - 1, by omega⟩
    rw [f_Mt_legalOf_lp12, if_pos (by omega)]
    refine ⟨lg, rfl, hl, fun f hf => (hb f hf).trans ?_⟩
    have z := bc_zero 64 hm f hf
    rw [z]
    simp
  | succ m ih =>
    intro n lg lf hn hm hl hsub hb
    obtain ⟨n', rfl⟩ : ∃ n', n = n' + 1 := ⟨n - 1, by omega⟩
    obtain ⟨j, j1, j2⟩ := low_of (show 0 < bc (bt lf) 64 by omega)
    have hjs : bt lf j = true := by rw [bt_uv]; exact j2.1
    have hm64 : m < 64 := by have := bc_le (bt lf) 64; omega
    rw [f_Mt_legalOf_lp12, if_neg (by omega), ntz_ok h lf j1 j2]
    simp only [obs]
    obtain ⟨z, z1, z2, z3⟩ := isb_ok h j1 hx hP hk (hpre j j1 (hsub j j1 hjs))
    rw [z1]
    simp only [obs]
    rw [jadd_eq (by omega) (by omega), show ((m + 1 : Nat) : Int) + -1 = (m : Int) by omega]
    have hclr := clr_ok j2
    have hcnt := bc_clr j1 j2
    refine ih n' _ _ (by omega) (by omega) ?_ ?_ ?_
    · split
      · exact hl
      · exact jlor_ok _ _
    · intro f hf q
      rw [hclr] at q
      simp at q
      exact hsub f hf q.1
    · intro f hf
      rw [hclr f]
      by_cases cz : z = 0
      · rw [if_pos cz, hb f hf]
        have ns : ¬ safe (h 3) (h 2 1) (h 2 3) j x := fun q => by have := z3.mpr q; omega
        constructor
        · rintro ⟨q1, q2, q3⟩
          exact ⟨q1, by simp at q2; simp [q2], q3⟩
        · rintro ⟨q1, q2, q3⟩
          have hfj : f ≠ j := fun e => ns (e ▸ q3)
          refine ⟨q1, ?_, q3⟩
          intro q
          apply q2
          simp [q, hfj]
      · rw [if_neg cz, bt_or, Bool.or_eq_true, hb f hf, bt_shl (by omega) (by omega) f hf, Int.toNat_natCast]
        have ys : safe (h 3) (h 2 1) (h 2 3) j x := z3.mp (by omega)
        constructor
        · rintro (⟨q1, q2, q3⟩ | q)
          · exact ⟨q1, by simp at q2; simp [q2], q3⟩
          · have : f = j := by simpa using q
            subst this
            exact ⟨hsub f hf hjs, by simp, ys⟩
        · rintro ⟨q1, q2, q3⟩
          by_cases e : f = j
          · right; simp [e]
          · left
            refine ⟨q1, ?_, q3⟩
            intro q
            apply q2
            simp [q, e]
theorem lo_ok (h : jH) {x k : Nat} (hx : x < 64) (hP : PosX h) (hk : uk (h 3) (h 2 1) k) (src : Int) (hpre : ∀ f, f < 64 → bt src f = true → preM (h 3) (h 2 1) (h 2 3) f x) :
    ∃ v, f_Mt_legalOf h src (x : Int) (k : Int) = some (v, h) ∧ ok64 v ∧ ∀ f, f < 64 → (bt v f = true ↔ bt src f = true ∧ safe (h 3) (h 2 1) (h 2 3) f x) := by
  unfold f_Mt_legalOf
  rw [bcn_ok]
  simp only [obs]
  have := bc_le (bt src) 64
  refine lo_lp h hx hP hk src hpre _ 1000 0 src (by omega) rfl ok64_0 (fun f _ q => q) (fun f hf => ?_)
  rw [bt_0]
  constructor
  · intro q; cases q
  · rintro ⟨q1, q2, -⟩; exact absurd q1 q2
theorem fj_ok (q : Nat) (h : jH) : ∃ h', f_Ja_fillJ q h 0 = some h' ∧ (∀ a, a ≠ q → h' a = h a) ∧ ∀ x, x < 64 → h' q x = 0 := by
  unfold f_Ja_fillJ
  obtain ⟨h', ⟨g1, g2⟩, g3⟩ := lp_all (fun n (i : Nat) (g : jH) => f_Ja_fillJ_lp6 q 0 64 (fun l5 h6 => some h6) n (i : Int) g) 64 (fun g => some g)
    (fun i g => (∀ a, a ≠ q → g a = h a) ∧ ∀ x, x < i → g q x = 0) (by
      intro n g _
      show f_Ja_fillJ_lp6 _ _ _ _ (n + 1) _ g = _
      rw [f_Ja_fillJ_lp6, if_pos (by omega)]) (by
      intro n i g hi hg
      show ∃ s', _ ∧ f_Ja_fillJ_lp6 _ _ _ _ (n + 1) _ g = f_Ja_fillJ_lp6 _ _ _ _ n ((i + 1 : Nat) : Int) s'
      rw [f_Ja_fillJ_lp6, if_neg (by omega), jgd_pos (by omega), Int.toNat_natCast, jadd_eq (by omega) (by omega)]
      refine ⟨jup g q i 0, ⟨fun a ha => by rw [jup_n _ _ _ ha]; exact hg.1 a ha, fun x hx => ?_⟩, rfl⟩
      rw [jup_s]
      by_cases e : x = i
      · rw [if_pos e]
      · rw [if_neg e]; exact hg.2 x (by omega)) h 1000 ⟨fun _ _ => rfl, fun x hx => (by omega)⟩ (by omega)
  exact ⟨h', g3, g1, g2⟩
/-- the moves before the king's safety is looked at -/
def psd (h0 : jH) (f x c : Nat) : Prop := (sd (h0 3 f) = h0 2 1 ∧ pmv h0 f x c) ∨ (f = kh (h0 2 1) ∧ c = 0 ∧ ((x = f + 2 ∧ cx (h0 3) (h0 2 1) (h0 2 2) 0) ∨ (f = x + 2 ∧ cx (h0 3) (h0 2 1) (h0 2 2) 1)))
theorem psd_own (h0 : jH) {f x c : Nat} (hf : f < 64) (hx : x < 64) (hc2 : c < 2) (hP : PosX h0) (hmv : psd h0 f x c) : preM (h0 3) (h0 2 1) (h0 2 3) f x := by
  have hP' := hP
  obtain ⟨hB, ⟨hS, hr0, hr1, hf0, hf1⟩, hK, hpw, hrg, hfl⟩ := hP
  rcases hmv with ⟨h1, h2⟩ | ⟨h1, h2, h3⟩
  · have h3 := (pmv_iff h0 hf hx hc2 hP' h1).mp h2
    refine ⟨h1, h3.1, fun k1 k2 => ?_⟩
    rcases h3.2 with ⟨q1, q2⟩ | ⟨q1, _⟩
    · rcases q2.2 with q | ⟨q, q3⟩
      · exact q.1
      · exfalso
        have hv := own_pawn (hB f hf).1 (hB f hf).2 hS k1 h1
        obtain ⟨z1, z2, z3⟩ := psq_mt hS hf0 hf1 hfl k2
        rcases q3 with q3 | q3
        · have e := q3.1
          unfold ahd at e
          rcases hfl with g | ⟨g, g1, g2, g3⟩ | ⟨g, g1, g2, g3⟩
          · omega
          · rw [g] at hv e z3
            rw [if_neg (by decide)] at hv e z3
            rw [show f = 24 + (h0 2 3).toNat by omega] at hv
            omega
          · rw [g] at hv e z3
            rw [if_pos rfl] at hv e z3
            rw [show f = 32 + (h0 2 3).toNat by omega] at hv
            omega
        · have e := q3.2.1
          have e1 := q3.1
          unfold ahd at e
          rcases hS with g | g
          · rw [g] at e e1 z3
            rw [if_pos rfl] at e e1 z3
            omega
          · rw [g] at e e1 z3
            rw [if_neg (by decide)] at e e1 z3
            omega
    · exact absurd k1 q1
  · have hk : ∀ w, w < 2 → cx (h0 3) (h0 2 1) (h0 2 2) w → h0 3 f = kp (h0 2 1) := by
      intro w hw q
      have := hrg (2 * (h0 2 1).toNat + w) (by omega) q.1
      have := this.1
      rw [h1]
      unfold hm hc at this
      unfold kh kp
      rcases hS with g | g <;> rw [g] at this ⊢
      · have e : (2 * (0 : Int).toNat + w < 2) := by have : (0 : Int).toNat = 0 := rfl; omega
        rw [if_pos e, if_pos e] at this
        rw [if_pos rfl, if_pos rfl]; exact this
      · have e : ¬ (2 * (1 : Int).toNat + w < 2) := by have : (1 : Int).toNat = 1 := rfl; omega
        rw [if_neg e, if_neg e] at this
        rw [if_neg (by decide), if_neg (by decide)]; exact this
    have hkk : kd (kp (h0 2 1)) = 6 := by rcases hS with g | g <;> rw [g] <;> decide
    have hx0 : h0 3 x = 0 := by
      rcases h3 with ⟨q1, q2⟩ | ⟨q1, q2⟩
      · apply q2.2.1
        unfold cin; rw [if_pos rfl]; omega
      · apply q2.2.1
        unfold cin; rw [if_neg (by decide)]; omega
    have hfk : h0 3 f = kp (h0 2 1) := by
      rcases h3 with ⟨q1, q2⟩ | ⟨q1, q2⟩
      · exact hk 0 (by omega) q2
      · exact hk 1 (by omega) q2
    refine ⟨by rw [hfk]; exact sd_kp hS, by rw [hx0]; exact sd_0 hS, fun q => ?_⟩
    rw [hfk, hkk] at q
    omega
