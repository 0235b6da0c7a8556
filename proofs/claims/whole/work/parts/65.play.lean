/-! the class makes a move -/
def hpA (b : Nat → Int) (side rights file : Int) : jH := fun a k => if a = 3 then b k else if k = 1 then side else if k = 2 then rights else file
theorem lg_pre {b : Nat → Int} {side rights file : Int} {f x c : Nat} (hP : PosR b side rights file) (hf : f < 64) (hx : x < 64) (hl : lgl b side rights file f x (c : Int)) : preM b side file f x := by
  have hPX : PosX (hpA b side rights file) := hP
  have main : ∀ e : Nat, e < 2 → lgl b side rights file f x (e : Int) → preM b side file f x := by
    intro e he q
    exact psd_own (hpA b side rights file) hf hx he hPX ((psd_lgl (hpA b side rights file) hf hx he hPX).mpr q).1
  by_cases h0 : c = 0
  · subst h0; exact main 0 (by omega) hl
  · exact main 1 (by omega) ((lg_bec b side rights file f x c hf hx (by omega)).mp hl)
theorem vsq_ok (h : jH) {s x : Nat} (hs : s < 64) (hx : x < 64) (b0 : 0 ≤ h 3 s) (b1 : h 3 s ≤ 12) (hS : h 2 1 = 0 ∨ h 2 1 = 1) (hf0 : -1 ≤ h 2 3) (hf1 : h 2 3 ≤ 7) : f_Bd_victimSquare h (s : Int) (x : Int) = some (((if kd (h 3 s) = 1 ∧ (x : Int) = psq (h 2 1) (h 2 3) then eps s x else x : Nat) : Nat) : Int) := by
  unfold f_Bd_victimSquare
  rw [jgd_pos (by omega), Int.toNat_natCast, kd_ok h b0 b1]
  simp only [obs]
  by_cases c1 : kd (h 3 s) = 1
  · rw [if_pos c1, psq_ok h hS hf0 hf1]
    simp only [obs]
    by_cases c2 : (x : Int) = psq (h 2 1) (h 2 3)
    · rw [if_pos c2, jand7 (by omega) (by omega), jshr3 (by omega) (by omega), sq_ok h (by omega) (by omega) (by omega) (by omega), if_pos ⟨c1, c2⟩]
      simp only [obs]
      unfold eps
      rw [show 8 * ((s : Int) / 8) + (x : Int) % 8 = ((s / 8 * 8 + x % 8 : Nat) : Int) by omega]
    · rw [if_neg c2, if_neg (fun q => c2 q.2)]
  · rw [if_neg c1, if_neg (fun q => c1 q.1)]
theorem vsq_v {b : Nat → Int} {side rights file : Int} {f x c v : Nat} (hP : PosR b side rights file) (hf : f < 64) (hx : x < 64) (hl : lgl b side rights file f x (c : Int)) (hv : vicR b side file f x v) : (if kd (b f) = 1 ∧ (x : Int) = psq side file then eps f x else x) = v := by
  have pre := lg_pre hP hf hx hl
  obtain ⟨hB, ⟨hS, hr0, hr1, hf0, hf1⟩, hK, hpw, hrg, hfl⟩ := hP
  by_cases q : kd (b f) = 1 ∧ (x : Int) = psq side file
  · rw [if_pos q]
    obtain ⟨z1, z2, z3⟩ := psq_mt hS hf0 hf1 hfl q.2
    rcases hv with w | w
    · exact w.2.symm
    · exact absurd ⟨q.1, z2, z3, pre.2.2 q.1 q.2⟩ w.1
  · rw [if_neg q]
    rcases hv with w | w
    · exact absurd ⟨w.1.1, psq_of w.1.2.1 w.1.2.2.1⟩ q
    · exact w.2.symm
/- the rights that go -/
def raS (s : Nat) (o w : Nat) (l : Int) : Int := if (s : Int) = (kh (o : Int) : Int) ∨ (s : Int) = (rh (o : Int) (w : Int) : Int) then jor l (jshl 1 (jadd (jmul 2 (o : Int)) (w : Int))) else l
theorem ra_step (h : jH) {s o w : Nat} (ho : o < 2) (hw : w < 2) (k : Int → Int → Option Int) (n : Nat) (l : Int) : f_Gm_rightsAt_lp11 h (s : Int) (o : Int) k (n + 1) l (w : Int) = f_Gm_rightsAt_lp11 h (s : Int) (o : Int) k n (raS s o w l) ((w + 1 : Nat) : Int) := by
  rw [f_Gm_rightsAt_lp11, if_neg (by omega), kh_ok h (by omega)]
  simp only [obs]
  rw [rh_ok h (by omega) (by omega)]
  simp only [obs]
  unfold f_Gm_rightsAt_j33_11 f_X_rightOf raS
  simp only [obs]
  rw [jadd_eq (a := (w : Int)) (b := 1) (by omega) (by omega), show (w : Int) + 1 = ((w + 1 : Nat) : Int) by omega]
  by_cases c1 : (s : Int) = (kh (o : Int) : Int)
  · rw [if_pos c1, if_pos (Or.inl c1)]
  · rw [if_neg c1]
    by_cases c2 : (s : Int) = (rh (o : Int) (w : Int) : Int)
    · rw [if_pos c2, if_pos (Or.inr c2)]
    · rw [if_neg c2, if_neg (fun q => by rcases q with q | q; exact c1 q; exact c2 q)]
theorem ra_tab : ∀ s : Nat, s < 64 → raS s 1 1 (raS s 1 0 (raS s 0 1 (raS s 0 0 0))) = rto s := by decide +kernel
theorem ra_ok (h : jH) {s : Nat} (hs : s < 64) : f_Gm_rightsAt h (s : Int) = some (rto s) := by
  unfold f_Gm_rightsAt
  have inn : ∀ (o : Nat), o < 2 → ∀ (k : Int → Int → Option Int) (l : Int), f_Gm_rightsAt_lp11 h (s : Int) (o : Int) k 1000 l 0 = k (raS s o 1 (raS s o 0 l)) 2 := by
    intro o ho k l
    have s0 := ra_step h (s := s) ho (w := 0) (by omega) k 999 l
    have s1 := ra_step h (s := s) ho (w := 1) (by omega) k 998 (raS s o 0 l)
    have s2 : f_Gm_rightsAt_lp11 h (s : Int) (o : Int) k 998 (raS s o 1 (raS s o 0 l)) ((2 : Nat) : Int) = k (raS s o 1 (raS s o 0 l)) 2 := by
      rw [f_Gm_rightsAt_lp11, if_pos (by omega)]; rfl
    exact s0.trans (s1.trans s2)
  have st : ∀ (n o : Nat) (l : Int), o < 2 → f_Gm_rightsAt_lp4 h (s : Int) (fun l15 l16 => some l15) (n + 1) l (o : Int) = f_Gm_rightsAt_lp4 h (s : Int) (fun l15 l16 => some l15) n (raS s o 1 (raS s o 0 l)) ((o + 1 : Nat) : Int) := by
    intro n o l ho
    rw [f_Gm_rightsAt_lp4, if_neg (by omega), inn o ho, jadd_eq (by omega) (by omega)]; rfl
  have e2 : f_Gm_rightsAt_lp4 h (s : Int) (fun l15 l16 => some l15) 998 (raS s 1 1 (raS s 1 0 (raS s 0 1 (raS s 0 0 0)))) ((2 : Nat) : Int) = some (raS s 1 1 (raS s 1 0 (raS s 0 1 (raS s 0 0 0)))) := by
    rw [f_Gm_rightsAt_lp4, if_pos (by omega)]
  rw [ra_tab s hs] at e2
  have e0 := st 999 0 0 (by omega)
  have e1 := st 998 1 (raS s 0 1 (raS s 0 0 0)) (by omega)
  rw [ra_tab s hs] at e1
  exact e0.trans (e1.trans e2)
theorem nr_tab : ∀ r : Nat, r < 16 → ∀ a : Nat, a < 16 → ∀ b : Nat, b < 16 → jand (r : Int) (jxor (jor (a : Int) (b : Int)) (-1)) = jand (jand (r : Int) (jxor (a : Int) (-1))) (jxor (b : Int) (-1)) := by decide +kernel
theorem nr_x {r : Int} (h0 : 0 ≤ r) (h1 : r ≤ 15) (f x : Nat) : jand r (jxor (jor (rto f) (rto x)) (-1)) = nr r f x := by
  obtain ⟨n, rfl⟩ : ∃ n : Nat, r = (n : Int) := ⟨r.toNat, by omega⟩
  obtain ⟨a, a1, a2⟩ := rto_rng f
  obtain ⟨b, b1, b2⟩ := rto_rng x
  unfold nr
  rw [a2, b2]
  exact nr_tab n (by omega) a a1 b b1
def rmb (h : jH) (n : Nat) (code tk : Int) : jH := jup (jup (jup (jup (jup (jup h 4 n code) 5 n tk) 6 n (h 2 2)) 7 n (h 2 3)) 8 n (h 2 4)) 1 6 ((n : Int) + 1)
theorem rm_ok (h : jH) {n : Nat} (hn : n < 301) (e : h 1 6 = (n : Int)) (code tk : Int) : f_Gm_remember h code tk = some (rmb h n code tk) := by
  unfold f_Gm_remember rmb
  simp (disch := decide) only [jup_n]
  rw [e, jgd_pos (by omega), jgd_pos (by omega), jgd_pos (by omega), jgd_pos (by omega), jgd_pos (by omega), Int.toNat_natCast, jadd_eq (by omega) (by omega)]
theorem rmb_o (h : jH) (n : Nat) (code tk : Int) {a : Nat} (ha : a ≠ 1 ∧ a ≠ 4 ∧ a ≠ 5 ∧ a ≠ 6 ∧ a ≠ 7 ∧ a ≠ 8) : rmb h n code tk a = h a := by
  obtain ⟨a1, a4, a5, a6, a7, a8⟩ := ha
  unfold rmb
  rw [jup_n _ _ _ a1, jup_n _ _ _ a8, jup_n _ _ _ a7, jup_n _ _ _ a6, jup_n _ _ _ a5, jup_n _ _ _ a4]
theorem ic_ok (h : jH) {q : Int} (q0 : 0 ≤ q) (q1 : q ≤ 12) {f x : Nat} (hf : f < 64) (hx : x < 64) : f_Gm_isCastling h q (f : Int) (x : Int) = some (if kd q = 6 ∧ (x = f + 2 ∨ f = x + 2) then 1 else 0) := by
  unfold f_Gm_isCastling
  rw [kd_ok h q0 q1]
  simp only [obs]
  rw [jsub_eq (a := (x : Int)) (by omega) (by omega), jsub_eq (by omega) (by omega)]
  by_cases c : kd q = 6
  · rw [if_pos c]
    by_cases d : x = f + 2 ∨ f = x + 2
    · rw [if_pos (show kd q = 6 ∧ (x = f + 2 ∨ f = x + 2) from ⟨c, d⟩), if_pos (by split <;> omega)]
    · rw [if_neg (show ¬ (kd q = 6 ∧ (x = f + 2 ∨ f = x + 2)) from fun z => d z.2), if_neg (by split <;> omega)]
  · rw [if_neg c, if_neg (show ¬ (kd q = 6 ∧ (x = f + 2 ∨ f = x + 2)) from fun z => c z.1)]
theorem crf_ok (h : jH) {f x : Nat} (hf : f = 4 ∨ f = 60) : f_Gm_castledRookFrom h (f : Int) (x : Int) = some ((crk f x : Nat) : Int) := by
  unfold f_Gm_castledRookFrom f_Gm_castledRookFrom_j11
  rw [jshr3 (by omega) (by omega), sq_ok h (by split <;> omega) (by split <;> omega) (by omega) (by omega)]
  simp only [obs]
  unfold crk
  congr 1
  split <;> split <;> omega
theorem sh_ok (h : jH) {a c : Nat} (ha : a < 64) (hc : c < 64) : f_Gm_shiftPiece h (a : Int) (c : Int) = some (jup (jup h 3 c (h 3 a)) 3 a 0) := by
  unfold f_Gm_shiftPiece
  rw [jgd_pos (by omega), jgd_pos (by omega), jgd_pos (by omega), Int.toNat_natCast, Int.toNat_natCast]
def st4 (h : jH) (a b c d : Int) : jH := jup (jup (jup (jup h 2 1 a) 2 2 b) 2 3 c) 2 4 d
theorem p173_ok (g : jH) {f x : Nat} {tk pw : Int} (hf : f < 64) (hx : x < 64) (hS : g 2 1 = 0 ∨ g 2 1 = 1) (hr0 : 0 ≤ g 2 2) (hr1 : g 2 2 ≤ 15) (hpw : pw = 0 ∨ pw = 1) (hc : 0 ≤ g 2 4 ∧ g 2 4 < 100000) :
    f_Gm_play_j173 g (f : Int) (x : Int) tk pw = some (st4 g (1 - g 2 1) (nr (g 2 2) f x) (if pw = 1 ∧ (x = f + 16 ∨ f = x + 16) then ((f % 8 : Nat) : Int) else -1) (if pw = 1 ∨ tk ≠ 0 then 0 else g 2 4 + 1)) := by
  unfold f_Gm_play_j173 f_Gm_play_j229 f_Gm_play_j230 f_Gm_play_j240 f_Gm_play_j253 f_Bd_enterState f_X_otherSide
  rw [(side_sub hS).1, ra_ok g hf, ra_ok g hx]
  simp only [obs]
  rw [nr_x hr0 hr1, jadd_eq (by omega) (by omega), jand7 (by omega) (by omega), show (f : Int) % 8 = ((f % 8 : Nat) : Int) by omega, jsub_eq (a := (x : Int)) (by omega) (by omega), jsub_eq (by omega) (by omega)]
  have fin : ∀ F : Int, (if pw = 0 then if tk = 0 then some (jup (jup (jup (jup g 2 1 (1 - g 2 1)) 2 2 (nr (g 2 2) f x)) 2 3 F) 2 4 (g 2 4 + 1)) else some (jup (jup (jup (jup g 2 1 (1 - g 2 1)) 2 2 (nr (g 2 2) f x)) 2 3 F) 2 4 0) else some (jup (jup (jup (jup g 2 1 (1 - g 2 1)) 2 2 (nr (g 2 2) f x)) 2 3 F) 2 4 0)) = some (st4 g (1 - g 2 1) (nr (g 2 2) f x) F (if pw = 1 ∨ tk ≠ 0 then 0 else g 2 4 + 1)) := by
    intro F
    unfold st4
    rcases hpw with e | e
    · rw [if_pos e]
      by_cases e2 : tk = 0
      · rw [if_pos e2, if_neg (fun q => by omega)]
      · rw [if_neg e2, if_pos (Or.inr e2)]
    · rw [if_neg (by omega), if_pos (Or.inl e)]
  rcases hpw with e | e
  · rw [if_pos e, if_neg (show ¬ (pw = 1 ∧ (x = f + 16 ∨ f = x + 16)) from fun q => by omega)]
    exact fin (-1)
  · rw [if_neg (show ¬ pw = 0 by omega)]
    by_cases d : (if 0 ≤ (x : Int) - (f : Int) then (x : Int) - (f : Int) else 0 - ((x : Int) - (f : Int))) = 16
    · rw [if_pos d, if_pos (show pw = 1 ∧ (x = f + 16 ∨ f = x + 16) from ⟨e, by split at d <;> omega⟩)]
      exact fin _
    · rw [if_neg d, if_neg (show ¬ (pw = 1 ∧ (x = f + 16 ∨ f = x + 16)) from fun q => d (by split <;> omega))]
      exact fin _
