/-! legal moves, as the reference finds them -/
theorem obs {α β : Type} (a : α) (f : α → Option β) : (some a).bind f = f a := by
  have h : ∀ x : Option β, f a = x → (some a).bind f = x := fun x e => e ▸ Option.bind_some a f
  exact h _ (Eq.refl _)
def YN (o : Option Int) (P : Prop) : Prop := ∃ v, o = some v ∧ (v = 0 ∨ v = 1) ∧ (v = 1 ↔ P)
theorem yn1 {P : Prop} (h : P) : YN (some 1) P := ⟨1, rfl, Or.inr rfl, ⟨fun _ => h, fun _ => rfl⟩⟩
theorem yn0 {P : Prop} (h : ¬ P) : YN (some 0) P := ⟨0, rfl, Or.inl rfl, ⟨fun q => (by cases q), fun q => absurd q h⟩⟩
theorem yn_iff {o : Option Int} {P Q : Prop} (h : YN o P) (e : P ↔ Q) : YN o Q := by
  obtain ⟨v, h1, h2, h3⟩ := h
  exact ⟨v, h1, h2, h3.trans e⟩
theorem yn_bind {α : Type} {o : Option Int} {P : Prop} (R : Option α → Prop) {A B : Option α} (h : YN o P) (h0 : ¬ P → R A) (h1 : P → R B) : R (o.bind fun v => if v = 0 then A else B) := by
  obtain ⟨v, e, h2, h3⟩ := h
  rw [e]
  show R (if v = 0 then A else B)
  by_cases c : v = 0
  · rw [if_pos c]; exact h0 (fun q => by have := h3.mpr q; omega)
  · rw [if_neg c]; exact h1 (h3.mp (by omega))
theorem yn_some {o : Option Int} {P : Prop} (h : YN o P) : YN (o.bind fun v => some (if v = 0 then 0 else 1)) P := by
  obtain ⟨v, e, h2, h3⟩ := h
  rw [e]
  show YN (some (if v = 0 then 0 else 1)) P
  by_cases c : v = 0
  · rw [if_pos c]; exact yn0 (fun q => by have := h3.mpr q; omega)
  · rw [if_neg c]; exact yn1 (h3.mp (by omega))
theorem yn_not {o : Option Int} {P : Prop} (h : YN o P) : YN (o.bind fun v => some (if v = 0 then 1 else 0)) (¬ P) := by
  obtain ⟨v, e, h2, h3⟩ := h
  rw [e]
  show YN (some (if v = 0 then 1 else 0)) _
  by_cases c : v = 0
  · rw [if_pos c]; exact yn1 (fun q => by have := h3.mpr q; omega)
  · rw [if_neg c]; exact yn0 (fun q => q (h3.mp (by omega)))
theorem yn_gd {o : Option Int} {P : Prop} (h : YN o P) : YN (o.bind fun v => jgd (v = 0 ∨ v = 1) (some v)) P := by
  obtain ⟨v, e, h2, h3⟩ := h
  rw [e]
  show YN (jgd (v = 0 ∨ v = 1) (some v)) P
  rw [jgd_pos h2]
  exact ⟨v, rfl, h2, h3⟩
/-- a pawn that goes behind one that went two squares -/
def beh (b : Nat → Int) (side file : Int) (s t : Nat) : Prop := kd (b s) = 1 ∧ 0 ≤ file ∧ (t : Int) = (if side = 0 then 40 else 16) + file ∧ attR b s t
def eps (s t : Nat) : Nat := s / 8 * 8 + t % 8
/-- the board behind a move, as far as attacks go -/
def mvb (b : Nat → Int) (s t v : Nat) : Nat → Int := fun x => if x = t then b s else if x = s then 0 else if x = v then 0 else b x
def kmv (k s t : Nat) : Nat := if s = k then t else k
theorem fil_beh {b : Nat → Int} {side file : Int} {s t : Nat} (hS : side = 0 ∨ side = 1) (hB : BR b) (hs : s < 64) (ht : t < 64) (hf : file ≤ 7) (hF : fil b side file) (ho : sd (b s) = side) (hb : beh b side file s t) :
    b (eps s t) = (if side = 0 then 7 else 1) ∧ b t = 0 ∧ eps s t < 64 ∧ eps s t ≠ s ∧ eps s t ≠ t := by
  obtain ⟨h1, h2, h3, h4⟩ := hb
  obtain ⟨b0, b1⟩ := hB s hs
  have hp : dfl s t = 1 ∧ (t : Int) / 8 - (s : Int) / 8 = (if b s = 1 then 1 else -1) := by
    rcases h4 with q | q | q | q | q | q
    · exact q.2
    all_goals (have := q.1; omega)
  have hi := iab_cases ((t : Int) % 8 - (s : Int) % 8)
  unfold dfl at hp
  have hv : b s = (if side = 0 then 1 else 7) := by
    unfold sd at ho
    unfold kd at h1
    rcases hS with e | e <;> subst e
    · rw [if_pos rfl]
      split at ho
      · omega
      · split at ho
        · split at h1 <;> omega
        · omega
    · rw [if_neg (by decide)]
      split at ho
      · omega
      · split at ho
        · omega
        · split at h1 <;> omega
  unfold eps
  rcases hF with q | ⟨q, q1, q2, q3⟩ | ⟨q, q1, q2, q3⟩
  · omega
  · subst q
    rw [if_neg (by decide)] at h3 hv
    rw [hv] at hp
    rw [if_neg (by decide)] at hp
    have e1 : s / 8 * 8 + t % 8 = 24 + file.toNat := by omega
    have e2 : t = 16 + file.toNat := by omega
    rw [e1, if_neg (by decide)]
    refine ⟨q1, by rw [e2]; exact q2, by omega, by omega, by omega⟩
  · subst q
    rw [if_pos rfl] at h3 hv
    rw [hv] at hp
    rw [if_pos rfl] at hp
    have e1 : s / 8 * 8 + t % 8 = 32 + file.toNat := by omega
    have e2 : t = 40 + file.toNat := by omega
    rw [e1, if_pos rfl]
    refine ⟨q1, by rw [e2]; exact q2, by omega, by omega, by omega⟩
theorem sd_kp {side : Int} (hS : side = 0 ∨ side = 1) : sd (kp side) = side := by
  rcases hS with e | e <;> subst e <;> decide
theorem uk_mv {b : Nat → Int} {side : Int} {k s t v : Nat} (hS : side = 0 ∨ side = 1) (hu : uk b side k) (hs : s < 64) (ht : t < 64) (ho : sd (b s) = side) (hn : sd (b t) ≠ side) (hv : v = t ∨ sd (b v) ≠ side) : uk (mvb b s t v) side (kmv k s t) := by
  obtain ⟨u1, u2, u3⟩ := hu
  have hst : s ≠ t := fun e => hn (e ▸ ho)
  have h6 : kp side ≠ 0 := by unfold kp; split <;> decide
  have hk : k ≠ t := fun e => hn (by rw [← e, u2]; exact sd_kp hS)
  unfold kmv
  by_cases e : s = k
  · rw [if_pos e]
    refine ⟨ht, by unfold mvb; rw [if_pos rfl, e, u2], fun x hx hk2 => ?_⟩
    unfold mvb at hk2
    by_cases c1 : x = t
    · exact c1
    · rw [if_neg c1] at hk2
      by_cases c2 : x = s
      · rw [if_pos c2] at hk2; exact absurd hk2.symm h6
      · rw [if_neg c2] at hk2
        by_cases c3 : x = v
        · rw [if_pos c3] at hk2; exact absurd hk2.symm h6
        · rw [if_neg c3] at hk2
          exact absurd ((u3 x hx hk2).trans e.symm) c2
  · rw [if_neg e]
    refine ⟨u1, ?_, fun x hx hk2 => ?_⟩
    · unfold mvb
      rw [if_neg hk, if_neg (Ne.symm e)]
      by_cases c3 : k = v
      · rcases hv with q | q
        · exact absurd (c3.trans q) hk
        · exact absurd (by rw [← c3, u2]; exact sd_kp hS) q
      · rw [if_neg c3]; exact u2
    · unfold mvb at hk2
      by_cases c1 : x = t
      · rw [if_pos c1] at hk2
        exact absurd (u3 s hs hk2) e
      · rw [if_neg c1] at hk2
        by_cases c2 : x = s
        · rw [if_pos c2] at hk2; exact absurd hk2.symm h6
        · rw [if_neg c2] at hk2
          by_cases c3 : x = v
          · rw [if_pos c3] at hk2; exact absurd hk2.symm h6
          · rw [if_neg c3] at hk2
            exact u3 x hx hk2
theorem BR_mv {b : Nat → Int} {s t v : Nat} (hB : BR b) (hs : s < 64) : BR (mvb b s t v) := by
  intro x hx
  unfold mvb
  split
  · exact hB s hs
  · split
    · decide
    · split
      · decide
      · exact hB x hx
/- the reference -/
theorem i2b {v : Int} (h0 : 0 ≤ v) (h1 : v ≤ 12) : ji2b v = v := by
  have t : ∀ n : Nat, n < 13 → ji2b (n : Int) = (n : Int) := by decide +kernel
  have := t v.toNat (by omega)
  rw [show ((v.toNat : Nat) : Int) = v by omega] at this
  exact this
def lay1 (h : jH) (p s : Nat) (v : Int) : jH := jup h 25 (64 * p + s) v
theorem ly_ok (h : jH) {p s : Nat} {v : Int} (hp : p < 304) (hs : s < 64) (h0 : 0 ≤ v) (h1 : v ≤ 12) : f_M_lay h (p : Int) (s : Int) v = some (lay1 h p s v) := by
  unfold f_M_lay lay1
  rw [i2b h0 h1, jmul_eq (by omega) (by omega), jadd_eq (by omega) (by omega), jgd_pos (by omega), show (64 * (p : Int) + (s : Int)).toNat = 64 * p + s by omega]
theorem lay_mb (h : jH) (p s : Nat) (v : Int) (x : Nat) : mb (lay1 h p s v) p x = if x = s then v else mb h p x := by
  unfold mb lay1
  rw [jup_s]
  by_cases e : x = s
  · rw [if_pos (by omega), if_pos e]
  · rw [if_neg (by omega), if_neg e]
theorem lay_o (h : jH) (p s : Nat) (v : Int) {a : Nat} (ha : a ≠ 25) : lay1 h p s v a = h a := jup_n h _ _ ha
theorem lay_oo (h : jH) (p s : Nat) (v : Int) {k : Nat} (hk : k ≠ 64 * p + s) : lay1 h p s v 25 k = h 25 k := jup_sn h _ _ hk
theorem ib_ok (h : jH) {p s t : Nat} (hp : p < 304) (hs : s < 64) (ht : t < 64) (hB : BR (mb h p)) (hf : h 28 p ≤ 7) : YN (f_M_isBehind h (p : Int) (s : Int) (t : Int)) (beh (mb h p) (h 26 p) (h 28 p) s t) := by
  obtain ⟨b0, b1⟩ := hB s hs
  unfold f_M_isBehind beh
  rw [pc_ok h hp hs]
  simp only [obs]
  rw [kdM_ok h b0 b1]
  simp only [obs]
  by_cases c1 : kd (mb h p s) = 1
  · rw [if_pos c1, jgd_pos (by omega), Int.toNat_natCast]
    by_cases c2 : h 28 p < 0
    · rw [if_pos c2]; exact yn0 (fun q => by omega)
    · rw [if_neg c2, jgd_pos (by omega)]
      unfold f_M_isBehind_j39
      rw [jgd_pos (by omega), Int.toNat_natCast]
      have ea : ∀ x : Int, (x = 40 ∨ x = 16) → jadd x (h 28 p) = x + h 28 p := fun x hx => jadd_eq (by omega) (by omega)
      rw [ea _ (by split <;> omega)]
      by_cases c3 : (t : Int) = (if h 26 p = 0 then 40 else 16) + h 28 p
      · rw [if_pos c3]
        exact yn_iff (yn_some (da_ok h hp hs ht hB)) ⟨fun q => ⟨c1, by omega, c3, q⟩, fun q => q.2.2.2⟩
      · rw [if_neg c3]; exact yn0 (fun q => c3 q.2.2.1)
  · rw [if_neg c1]; exact yn0 (fun q => c1 q.1)
def vicR (b : Nat → Int) (side file : Int) (s t v : Nat) : Prop := (beh b side file s t ∧ v = eps s t) ∨ (¬ beh b side file s t ∧ v = t)
/-- the mover's king is not attacked behind the move -/
def safe (b : Nat → Int) (side file : Int) (s t : Nat) : Prop := ∀ k v, uk b side k → vicR b side file s t v → ¬ atd (mvb b s t v) (kmv k s t) (1 - side)
def PosR (b : Nat → Int) (side rights file : Int) : Prop := BR b ∧ StR side rights file ∧ Kgs b ∧ pwn b ∧ rgt b rights ∧ fil b side file
def PosM (h : jH) (p : Nat) : Prop := PosR (mb h p) (h 26 p) (h 27 p) (h 28 p)
theorem sf_core (h : jH) {p s t k : Nat} (hp : p < 304) (hs : s < 64) (ht : t < 64) (hB : BR (mb h p)) (hS : h 26 p = 0 ∨ h 26 p = 1) (hk : uk (mb h p) (h 26 p) k) (ho : sd (mb h p s) = h 26 p) (hn : sd (mb h p t) ≠ h 26 p)
    (h' : jH) (v : Nat) (e1 : mb h' p = mvb (mb h p) s t v) (e2 : v = t ∨ sd (mb h p v) ≠ h 26 p) (e3 : vicR (mb h p) (h 26 p) (h 28 p) s t v) (l l' : Int) (fin : jH) (e4 : ∀ z : Int, (z = 0 ∨ z = 1) → f_M_isSafe_j122 h' (p : Int) (s : Int) (t : Int) (mb h p s) (mb h p t) l l' z = some (z, fin)) :
    ∃ z, f_M_isSafe_j98 h' (p : Int) (s : Int) (t : Int) (h 26 p) (mb h p s) (mb h p t) l l' = some (z, fin) ∧ (z = 0 ∨ z = 1) ∧ (z = 1 ↔ safe (mb h p) (h 26 p) (h 28 p) s t) := by
  have hu := uk_mv hS hk hs ht ho hn e2
  have hB' : BR (mvb (mb h p) s t v) := BR_mv hB hs
  rw [← e1] at hu hB'
  unfold f_M_isSafe_j98
  rw [ko_ok h' hp hu, (side_sub hS).1]
  simp only [obs]
  obtain ⟨y, y1, y2, y3⟩ := ia_ok h' hp hu.1 hB' (side_sub hS).2
  rw [y1]
  simp only [obs]
  have key : atd (mb h' p) (kmv k s t) (1 - h 26 p) ↔ ¬ safe (mb h p) (h 26 p) (h 28 p) s t := by
    rw [e1]
    constructor
    · intro q q2; exact q2 k v hk e3 q
    · intro q
      apply Classical.byContradiction
      intro q2
      apply q
      intro k' v' hk' hv'
      have ek := uk_one hk' hk
      have ev : v' = v := by
        rcases e3 with ⟨a1, a2⟩ | ⟨a1, a2⟩ <;> rcases hv' with ⟨c1, c2⟩ | ⟨c1, c2⟩
        · rw [a2, c2]
        · exact absurd a1 c1
        · exact absurd c1 a1
        · rw [a2, c2]
      rw [ek, ev]; exact q2
  by_cases c : y = 0
  · rw [if_pos c, e4 1 (Or.inr rfl)]
    refine ⟨1, rfl, Or.inr rfl, ⟨fun _ => ?_, fun _ => rfl⟩⟩
    apply Classical.byContradiction
    intro q
    have := y3.mpr (key.mpr q)
    omega
  · rw [if_neg c, e4 0 (Or.inl rfl)]
    exact ⟨0, rfl, Or.inl rfl, ⟨fun q => (by cases q), fun q => absurd q (key.mp (y3.mp (by omega)))⟩⟩
theorem sf_r1 (h : jH) {p s t : Nat} : lay1 (lay1 (lay1 (lay1 h p s 0) p t (mb h p s)) p s (mb h p s)) p t (mb h p t) = h := by
  apply jH_ext
  intro a x
  by_cases d : a = 25
  · subst d
    unfold lay1
    rw [jup_s, jup_s, jup_s, jup_s]
    unfold mb
    by_cases d1 : x = 64 * p + t
    · rw [if_pos d1, d1]
    · rw [if_neg d1]
      by_cases d2 : x = 64 * p + s
      · rw [if_pos d2, d2]
      · rw [if_neg d2, if_neg d1, if_neg d2]
  · rw [lay_o _ _ _ _ d, lay_o _ _ _ _ d, lay_o _ _ _ _ d, lay_o _ _ _ _ d]
theorem sf_r2 (h : jH) {p s t v : Nat} : lay1 (lay1 (lay1 (lay1 (lay1 (lay1 h p s 0) p t (mb h p s)) p v 0) p s (mb h p s)) p t (mb h p t)) p v (mb h p v) = h := by
  apply jH_ext
  intro a x
  by_cases d : a = 25
  · subst d
    unfold lay1
    rw [jup_s, jup_s, jup_s, jup_s, jup_s, jup_s]
    unfold mb
    by_cases d0 : x = 64 * p + v
    · rw [if_pos d0, d0]
    · rw [if_neg d0]
      by_cases d1 : x = 64 * p + t
      · rw [if_pos d1, d1]
      · rw [if_neg d1]
        by_cases d2 : x = 64 * p + s
        · rw [if_pos d2, d2]
        · rw [if_neg d2, if_neg d0, if_neg d1, if_neg d2]
  · rw [lay_o _ _ _ _ d, lay_o _ _ _ _ d, lay_o _ _ _ _ d, lay_o _ _ _ _ d, lay_o _ _ _ _ d, lay_o _ _ _ _ d]
theorem sf_m1 (h : jH) {p s t : Nat} : mb (lay1 (lay1 h p s 0) p t (mb h p s)) p = mvb (mb h p) s t t := by
  funext x
  rw [lay_mb, lay_mb]
  unfold mvb
  by_cases d1 : x = t
  · rw [if_pos d1, if_pos d1]
  · rw [if_neg d1, if_neg d1]
    by_cases d2 : x = s
    · rw [if_pos d2, if_pos d2]
    · rw [if_neg d2, if_neg d2, if_neg d1]
theorem sf_m2 (h : jH) {p s t v : Nat} (hv : v ≠ t) : mb (lay1 (lay1 (lay1 h p s 0) p t (mb h p s)) p v 0) p = mvb (mb h p) s t v := by
  funext x
  rw [lay_mb, lay_mb, lay_mb]
  unfold mvb
  by_cases d1 : x = t
  · rw [if_pos d1, if_pos d1, if_neg (by omega)]
  · rw [if_neg d1, if_neg d1]
    by_cases d2 : x = s
    · rw [if_pos d2, if_pos d2]; split <;> rfl
    · rw [if_neg d2, if_neg d2]
theorem sf_ok (h : jH) {p s t : Nat} (bec : Int) (hp : p < 304) (hs : s < 64) (ht : t < 64) (hP : PosM h p) (ho : sd (mb h p s) = h 26 p) (hn : sd (mb h p t) ≠ h 26 p) :
    ∃ v, f_M_isSafe h (p : Int) (s : Int) (t : Int) bec = some (v, h) ∧ (v = 0 ∨ v = 1) ∧ (v = 1 ↔ safe (mb h p) (h 26 p) (h 28 p) s t) := by
  obtain ⟨hB, ⟨hS, hr0, hr1, hf0, hf1⟩, hK, hpw, hrg, hfl⟩ := hP
  obtain ⟨b0, b1⟩ := hB s hs
  obtain ⟨t0, t1⟩ := hB t ht
  have hst : s ≠ t := fun e => hn (e ▸ ho)
  obtain ⟨k, hk⟩ := kgs_uk hK hS
  have core := sf_core h hp hs ht hB hS hk ho hn
  unfold f_M_isSafe
  rw [jgd_pos (by omega), pc_ok h hp hs, pc_ok h hp ht, Int.toNat_natCast]
  simp only [obs]
  obtain ⟨w, w1, w2, w3⟩ := ib_ok h hp hs ht hB hf1
  rw [w1]
  simp only [obs]
  rw [jdiv_eq (by omega) (by omega) (by omega) (by omega), jrem_eq (by omega) (by omega) (by omega) (by omega), jmul_eq (by omega) (by omega), jadd_eq (by omega) (by omega)]
  by_cases c : w = 0
  · rw [if_pos c]
    have hnb : ¬ beh (mb h p) (h 26 p) (h 28 p) s t := fun q => by have := w3.mpr q; omega
    unfold f_M_isSafe_j50
    rw [if_neg (by omega)]
    unfold f_M_isSafe_j68
    rw [ly_ok h hp hs (by omega) (by omega)]
    simp only [obs]
    rw [ly_ok _ hp ht b0 b1]
    simp only [obs]
    rw [if_pos (by omega)]
    refine core _ t (sf_m1 h) (Or.inl rfl) (Or.inr ⟨hnb, rfl⟩) _ _ h (fun z hz => ?_)
    unfold f_M_isSafe_j122
    rw [ly_ok _ hp hs b0 b1]
    simp only [obs]
    rw [ly_ok _ hp ht t0 t1]
    simp only [obs]
    rw [if_pos (by omega), jgd_pos hz, sf_r1]
  · rw [if_neg c]
    have hbh : beh (mb h p) (h 26 p) (h 28 p) s t := w3.mp (by omega)
    obtain ⟨g1, g2, g3, g4, g5⟩ := fil_beh hS hB hs ht hf1 hfl ho hbh
    have ee : (s : Int) / 8 * 8 + (t : Int) % 8 = ((eps s t : Nat) : Int) := by unfold eps; omega
    rw [ee]
    obtain ⟨v0, v1⟩ := hB (eps s t) g3
    unfold f_M_isSafe_j50
    rw [if_pos (by omega), pc_ok h hp g3]
    simp only [obs]
    unfold f_M_isSafe_j68
    rw [ly_ok h hp hs (by omega) (by omega)]
    simp only [obs]
    rw [ly_ok _ hp ht b0 b1]
    simp only [obs]
    rw [if_neg (by omega), ly_ok _ hp g3 (by omega) (by omega)]
    simp only [obs]
    refine core _ (eps s t) (sf_m2 h g5) (Or.inr ?_) (Or.inl ⟨hbh, rfl⟩) _ _ h (fun z hz => ?_)
    · rw [g1]
      rcases hS with e | e <;> rw [e] <;> decide
    · unfold f_M_isSafe_j122
      rw [ly_ok _ hp hs b0 b1]
      simp only [obs]
      rw [ly_ok _ hp ht t0 t1]
      simp only [obs]
      rw [if_neg (by omega), ly_ok _ hp g3 v0 v1]
      simp only [obs]
      rw [jgd_pos hz, sf_r2]
