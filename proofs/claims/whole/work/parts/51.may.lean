/-! the reference: mayPawn, mayCastle, mayGo, isLegal -/
def ahd (side : Int) : Int := if side = 0 then 8 else -8
def stp1 (b : Nat → Int) (side : Int) (s t : Nat) : Prop := (t : Int) = (s : Int) + ahd side ∧ b t = 0
def stp2 (b : Nat → Int) (side : Int) (s t : Nat) : Prop := (s : Int) / 8 = (if side = 0 then 1 else 6) ∧ (t : Int) = (s : Int) + 2 * ahd side ∧ b t = 0 ∧ b ((s : Int) + ahd side).toNat = 0
def lastR (side : Int) (t : Nat) : Prop := (t : Int) / 8 = (if side = 0 then 7 else 0)
def mpw (b : Nat → Int) (side file : Int) (s t : Nat) (bec : Int) : Prop := (lastR side t ↔ 0 < bec) ∧ ((attR b s t ∧ (sd (b t) = 1 - side ∨ beh b side file s t)) ∨ (¬ attR b s t ∧ (stp1 b side s t ∨ stp2 b side s t)))
def cbit (side : Int) (s t : Nat) : Nat := (if side = 0 then 0 else 2) + (if t ≤ s then 1 else 0)
def crk (s t : Nat) : Nat := if t ≤ s then s - 4 else s + 3
def cas (b : Nat → Int) (side rights : Int) (s t : Nat) : Prop := s = kh side ∧ (t = s + 2 ∨ s = t + 2) ∧ rbit rights (cbit side s t) ∧ clr b s (crk s t) ∧ ¬ atd b s (1 - side) ∧ ¬ atd b ((s + t) / 2) (1 - side)
def mgo (b : Nat → Int) (side rights file : Int) (s t : Nat) (bec : Int) : Prop := sd (b s) = side ∧ sd (b t) ≠ side ∧ ((kd (b s) = 1 ∧ mpw b side file s t bec) ∨ (kd (b s) ≠ 1 ∧ bec = 0 ∧ (attR b s t ∨ (kd (b s) = 6 ∧ cas b side rights s t))))
def lgl (b : Nat → Int) (side rights file : Int) (s t : Nat) (bec : Int) : Prop := mgo b side rights file s t bec ∧ safe b side file s t
theorem yn_of {v : Int} {P : Prop} [Decidable P] : YN (some (if P then 1 else 0)) P := by
  by_cases c : P
  · rw [if_pos c]; exact yn1 c
  · rw [if_neg c]; exact yn0 c
theorem io_yn (h : jH) {p s : Nat} {side : Int} (hp : p < 304) (hs : s < 64) (hB : BR (mb h p)) (hsd : side = 0 ∨ side = 1) : YN (f_M_isOf h (p : Int) (s : Int) side) (sd (mb h p s) = side) := by
  rw [io_ok h hp hs hB hsd]
  exact yn_of (v := 0)
theorem mpw_ok (h : jH) {p s t : Nat} (bec : Int) (hp : p < 304) (hs : s < 64) (ht : t < 64) (hB : BR (mb h p)) (hS : h 26 p = 0 ∨ h 26 p = 1) (hf : h 28 p ≤ 7) (hpw : 8 ≤ s ∧ s < 56) : YN (f_M_mayPawn h (p : Int) (s : Int) (t : Int) bec) (mpw (mb h p) (h 26 p) (h 28 p) s t bec) := by
  unfold f_M_mayPawn f_M_mayPawn_j20 f_M_mayPawn_j37 f_M_mayPawn_j45 f_M_mayPawn_j59
  rw [jgd_pos (by omega), Int.toNat_natCast, jdiv_eq (by omega) (by omega) (by omega) (by omega), (side_sub hS).1]
  have ha : (if h 26 p = 0 then (8 : Int) else -8) = ahd (h 26 p) := rfl
  have har : ahd (h 26 p) = 8 ∨ ahd (h 26 p) = -8 := by unfold ahd; split <;> omega
  rw [ha, jadd_eq (by omega) (by omega)]
  have hl : ((if (t : Int) / 8 = (if h 26 p = 0 then 7 else 0) then (1 : Int) else 0) = (if bec ≤ 0 then 0 else 1)) ↔ (lastR (h 26 p) t ↔ 0 < bec) := by
    unfold lastR
    by_cases c1 : (t : Int) / 8 = (if h 26 p = 0 then 7 else 0)
    · rw [if_pos c1]
      by_cases c2 : bec ≤ 0
      · rw [if_pos c2]; exact ⟨fun q => (by cases q), fun q => (by have := q.mp c1; omega)⟩
      · rw [if_neg c2]; exact ⟨fun _ => ⟨fun _ => by omega, fun _ => c1⟩, fun _ => rfl⟩
    · rw [if_neg c1]
      by_cases c2 : bec ≤ 0
      · rw [if_pos c2]; exact ⟨fun _ => ⟨fun q => absurd q c1, fun q => by omega⟩, fun _ => rfl⟩
      · rw [if_neg c2]; exact ⟨fun q => (by cases q), fun q => absurd (q.mpr (by omega)) c1⟩
  by_cases c0 : (if (t : Int) / 8 = (if h 26 p = 0 then 7 else 0) then (1 : Int) else 0) = (if bec ≤ 0 then 0 else 1)
  · rw [if_pos c0]
    have c0' := hl.mp c0
    obtain ⟨w, w1, w2, w3⟩ := da_ok h hp hs ht hB
    rw [w1]
    simp only [obs]
    by_cases cw : w = 0
    · rw [if_pos cw]
      have na : ¬ attR (mb h p) s t := fun q => by have := w3.mpr q; omega
      have two : ∀ one : Int, (one = 0 ∨ one = 1) → (one = 1 ↔ stp1 (mb h p) (h 26 p) s t) → YN (f_M_mayPawn_j125 h (p : Int) (s : Int) (t : Int) (h 26 p) (ahd (h 26 p)) one) (mpw (mb h p) (h 26 p) (h 28 p) s t bec) := by
        intro one h1 h2
        unfold f_M_mayPawn_j125 f_M_mayPawn_j142 f_M_mayPawn_j180 f_M_mayPawn_j181
        rw [jdiv_eq (by omega) (by omega) (by omega) (by omega), jmul_eq (by omega) (by omega), jadd_eq (by omega) (by omega), jadd_eq (by omega) (by omega)]
        have fin : ∀ x : Int, (x = 0 ∨ x = 1) → (x = 1 ↔ stp2 (mb h p) (h 26 p) s t) → YN (some (if one = 0 then if x = 0 then 0 else 1 else 1)) (mpw (mb h p) (h 26 p) (h 28 p) s t bec) := by
          intro x x1 x2
          by_cases d1 : one = 0
          · rw [if_pos d1]
            by_cases d2 : x = 0
            · rw [if_pos d2]
              refine yn0 (fun q => ?_)
              rcases q.2 with q | q
              · exact na q.1
              · rcases q.2 with q | q
                · have := h2.mpr q; omega
                · have := x2.mpr q; omega
            · rw [if_neg d2]; exact yn1 ⟨c0', Or.inr ⟨na, Or.inr (x2.mp (by omega))⟩⟩
          · rw [if_neg d1]; exact yn1 ⟨c0', Or.inr ⟨na, Or.inl (h2.mp (by omega))⟩⟩
        by_cases e1 : (s : Int) / 8 = (if h 26 p = 0 then 1 else 6)
        · rw [if_pos e1]
          by_cases e2 : (t : Int) = (s : Int) + 2 * ahd (h 26 p)
          · rw [if_pos e2, pc_ok h hp ht]
            simp only [obs]
            by_cases e3 : mb h p t = 0
            · have e5 : (s : Int) + ahd (h 26 p) = ((((s : Int) + ahd (h 26 p)).toNat : Nat) : Int) := by omega
              rw [if_pos e3, e5, pc_ok h hp (by omega)]
              simp only [obs]
              by_cases e4 : mb h p ((s : Int) + ahd (h 26 p)).toNat = 0
              · rw [if_pos e4]; exact fin 1 (Or.inr rfl) ⟨fun _ => ⟨e1, e2, e3, e4⟩, fun _ => rfl⟩
              · rw [if_neg e4]; exact fin 0 (Or.inl rfl) ⟨fun q => (by cases q), fun q => absurd q.2.2.2 e4⟩
            · rw [if_neg e3]; exact fin 0 (Or.inl rfl) ⟨fun q => (by cases q), fun q => absurd q.2.2.1 e3⟩
          · rw [if_neg e2]; exact fin 0 (Or.inl rfl) ⟨fun q => (by cases q), fun q => absurd q.2.1 e2⟩
        · rw [if_neg e1]; exact fin 0 (Or.inl rfl) ⟨fun q => (by cases q), fun q => absurd q.1 e1⟩
      unfold f_M_mayPawn_j124
      by_cases e1 : (t : Int) = (s : Int) + ahd (h 26 p)
      · rw [if_pos e1, pc_ok h hp ht]
        simp only [obs]
        by_cases e2 : mb h p t = 0
        · rw [if_pos e2]; exact two 1 (Or.inr rfl) ⟨fun _ => ⟨e1, e2⟩, fun _ => rfl⟩
        · rw [if_neg e2]; exact two 0 (Or.inl rfl) ⟨fun q => (by cases q), fun q => absurd q.2 e2⟩
      · rw [if_neg e1]; exact two 0 (Or.inl rfl) ⟨fun q => (by cases q), fun q => absurd q.1 e1⟩
    · rw [if_neg cw]
      have ya : attR (mb h p) s t := w3.mp (by omega)
      obtain ⟨u, u1, u2, u3⟩ := io_yn h hp ht hB (side_sub hS).2
      rw [u1]
      simp only [obs]
      by_cases cu : ¬ u = 0
      · rw [if_neg cu]; exact yn1 ⟨c0', Or.inl ⟨ya, Or.inl (u3.mp (by omega))⟩⟩
      rw [if_pos (show u = 0 by omega)]
      have nb : ¬ sd (mb h p t) = 1 - h 26 p := fun q => by have := u3.mpr q; omega
      refine yn_iff (yn_some (ib_ok h hp hs ht hB hf)) ⟨fun q => ⟨c0', Or.inl ⟨ya, Or.inr q⟩⟩, fun q => ?_⟩
      rcases q.2 with q | q
      · rcases q.2 with q | q
        · exact absurd q nb
        · exact q
      · exact absurd ya q.1
  · rw [if_neg c0]
    exact yn0 (fun q => c0 (hl.mpr q.1))
theorem cas_ok (h : jH) {p s t : Nat} (hp : p < 304) (hs : s < 64) (ht : t < 64) (hB : BR (mb h p)) (hS : h 26 p = 0 ∨ h 26 p = 1) (hr0 : 0 ≤ h 27 p) (hr1 : h 27 p ≤ 15) : YN (f_M_mayCastle h (p : Int) (s : Int) (t : Int)) (cas (mb h p) (h 26 p) (h 27 p) s t) := by
  unfold f_M_mayCastle f_M_mayCastle_j19
  rw [jgd_pos (by omega), Int.toNat_natCast]
  have hh : (if h 26 p = 0 then (4 : Int) else 60) = (kh (h 26 p) : Int) := by unfold kh; split <;> rfl
  have hkr : kh (h 26 p) = 4 ∨ kh (h 26 p) = 60 := by unfold kh; split <;> omega
  rw [hh, jadd_eq (by omega) (by omega), jsub_eq (by omega) (by omega)]
  by_cases c1 : (s : Int) = (kh (h 26 p) : Int)
  · rw [if_pos c1]
    have c1' : s = kh (h 26 p) := by omega
    have core : (t = s + 2 ∨ s = t + 2) → YN (f_M_mayCastle_j45 h (p : Int) (s : Int) (t : Int) (h 26 p) (kh (h 26 p) : Int)) (cas (mb h p) (h 26 p) (h 27 p) s t) := by
      intro ct
      unfold f_M_mayCastle_j45 f_M_mayCastle_j55 f_M_mayCastle_j65 f_M_mayCastle_j84
      have eb : jadd (if h 26 p = 0 then 0 else 2) (if (t : Int) ≤ (s : Int) then 1 else 0) = ((cbit (h 26 p) s t : Nat) : Int) := by
        unfold cbit
        rw [jadd_eq (by split <;> split <;> omega) (by split <;> split <;> omega)]
        split <;> split <;> (try split) <;> omega
      have hcb : cbit (h 26 p) s t < 4 := by unfold cbit; split <;> split <;> omega
      have er : (if (t : Int) ≤ (s : Int) then jsub (kh (h 26 p) : Int) 4 else jadd (kh (h 26 p) : Int) 3) = ((crk s t : Nat) : Int) := by
        rw [jsub_eq (by omega) (by omega), jadd_eq (by omega) (by omega)]
        unfold crk
        split <;> split <;> omega
      have hcr : crk s t < 64 ∧ (dfl s (crk s t) = 0 ↔ drk s (crk s t) ≠ 0) := by
        have : (s = 4 ∨ s = 60) := by omega
        have hc : crk s t = s - 4 ∨ crk s t = s + 3 := by unfold crk; split <;> omega
        rcases this with e | e <;> rcases hc with e2 | e2 <;> rw [e2, e] <;> decide
      rw [eb, er, jgd_pos (by omega), Int.toNat_natCast, (side_sub hS).1, jadd_eq (a := (s : Int)) (by omega) (by omega), jdiv_eq (by omega) (by omega) (by omega) (by omega), show ((s : Int) + (t : Int)) / 2 = (((s + t) / 2 : Nat) : Int) by omega]
      by_cases d1 : rbit (h 27 p) (cbit (h 26 p) s t)
      · rw [if_pos ((rb_ok hr0 hr1 hcb).mpr d1)]
        refine yn_bind (fun o => YN o _) (cl_str h hp hs hcr.1 (Or.inl hcr.2)) (fun nc => yn0 (fun q => nc q.2.2.2.1)) (fun yc => ?_)
        obtain ⟨y, y1, y2, y3⟩ := ia_ok h hp hs hB (side_sub hS).2
        rw [y1]
        simp only [obs]
        by_cases d2 : y = 0
        · rw [if_pos d2]
          have na : ¬ atd (mb h p) s (1 - h 26 p) := fun q => by have := y3.mpr q; omega
          refine yn_iff (yn_not (ia_ok h hp (by omega) hB (side_sub hS).2)) ⟨fun q => ⟨c1', ct, d1, yc, na, q⟩, fun q => q.2.2.2.2.2⟩
        · rw [if_neg d2]; exact yn0 (fun q => q.2.2.2.2.1 (y3.mp (by omega)))
      · rw [if_neg (fun q => d1 ((rb_ok hr0 hr1 hcb).mp q))]; exact yn0 (fun q => d1 q.2.2.1)
    by_cases c2 : (t : Int) = (kh (h 26 p) : Int) + 2
    · rw [if_pos c2]; exact core (by omega)
    · rw [if_neg c2]
      by_cases c3 : (t : Int) = (kh (h 26 p) : Int) - 2
      · rw [if_pos c3]; exact core (by omega)
      · rw [if_neg c3]; exact yn0 (fun q => by have := q.2.1; omega)
  · rw [if_neg c1]; exact yn0 (fun q => c1 (by rw [← q.1]))
theorem mgo_ok (h : jH) {p s t : Nat} (bec : Int) (hp : p < 304) (hs : s < 64) (ht : t < 64) (hP : PosM h p) : YN (f_M_mayGo h (p : Int) (s : Int) (t : Int) bec) (mgo (mb h p) (h 26 p) (h 27 p) (h 28 p) s t bec) := by
  obtain ⟨hB, ⟨hS, hr0, hr1, hf0, hf1⟩, hK, hpw, hrg, hfl⟩ := hP
  obtain ⟨b0, b1⟩ := hB s hs
  unfold f_M_mayGo
  rw [jgd_pos (by omega), Int.toNat_natCast]
  obtain ⟨u, u1, u2, u3⟩ := io_yn h hp hs hB hS
  rw [u1]
  simp only [obs]
  by_cases cu : u = 0
  · rw [if_pos cu]; exact yn0 (fun q => by have := u3.mpr q.1; omega)
  rw [if_neg cu]
  have y1 := u3.mp (by omega)
  obtain ⟨v, v1, v2, v3⟩ := io_yn h hp ht hB hS
  rw [v1]
  simp only [obs]
  by_cases c : v = 0
  · rw [if_pos c, pc_ok h hp hs]
    have n2 : sd (mb h p t) ≠ h 26 p := fun q => by have := v3.mpr q; omega
    simp only [obs]
    rw [kdM_ok h b0 b1]
    simp only [obs]
    by_cases c1 : kd (mb h p s) = 1
    · rw [if_pos c1]
      refine yn_iff (yn_gd (mpw_ok h bec hp hs ht hB hS hf1 (hpw s hs c1))) ⟨fun q => ⟨y1, n2, Or.inl ⟨c1, q⟩⟩, fun q => ?_⟩
      rcases q.2.2 with q | q
      · exact q.2
      · exact absurd c1 q.1
    · rw [if_neg c1]
      by_cases c2 : bec = 0
      · rw [if_pos c2]
        obtain ⟨w, w1, w2, w3⟩ := da_ok h hp hs ht hB
        rw [w1]
        simp only [obs]
        by_cases c3 : w = 0
        · rw [if_pos c3]
          have n3 : ¬ attR (mb h p) s t := fun q => by have := w3.mpr q; omega
          by_cases c4 : kd (mb h p s) = 6
          · rw [if_pos c4]
            refine yn_iff (yn_some (cas_ok h hp hs ht hB hS hr0 hr1)) ⟨fun q => ⟨y1, n2, Or.inr ⟨c1, c2, Or.inr ⟨c4, q⟩⟩⟩, fun q => ?_⟩
            rcases q.2.2 with q | q
            · exact absurd q.1 c1
            · rcases q.2.2 with q | q
              · exact absurd q n3
              · exact q.2
          · rw [if_neg c4]
            refine yn0 (fun q => ?_)
            rcases q.2.2 with q | q
            · exact absurd q.1 c1
            · rcases q.2.2 with q | q
              · exact absurd q n3
              · exact c4 q.1
        · rw [if_neg c3]; exact yn1 ⟨y1, n2, Or.inr ⟨c1, c2, Or.inl (w3.mp (by omega))⟩⟩
      · rw [if_neg c2]
        refine yn0 (fun q => ?_)
        rcases q.2.2 with q | q
        · exact absurd q.1 c1
        · exact c2 q.2.1
  · rw [if_neg c]; exact yn0 (fun q => q.2.1 (v3.mp (by omega)))
theorem lgl_ok (h : jH) {p s t : Nat} (bec : Int) (hp : p < 304) (hs : s < 64) (ht : t < 64) (hP : PosM h p) :
    ∃ v, f_M_isLegal h (p : Int) (s : Int) (t : Int) bec = some (v, h) ∧ (v = 0 ∨ v = 1) ∧ (v = 1 ↔ lgl (mb h p) (h 26 p) (h 27 p) (h 28 p) s t bec) := by
  unfold f_M_isLegal
  obtain ⟨w, w1, w2, w3⟩ := mgo_ok h bec hp hs ht hP
  rw [w1]
  simp only [obs]
  by_cases c : w = 0
  · rw [if_pos c]; exact ⟨0, rfl, Or.inl rfl, ⟨fun q => (by cases q), fun q => (by have := w3.mpr q.1; omega)⟩⟩
  · rw [if_neg c]
    have m := w3.mp (by omega)
    obtain ⟨x, x1, x2, x3⟩ := sf_ok h bec hp hs ht hP m.1 m.2.1
    rw [x1]
    simp only [obs]
    by_cases d : x = 0
    · rw [if_pos d]; exact ⟨0, rfl, Or.inl rfl, ⟨fun q => (by cases q), fun q => (by have := x3.mpr q.2; omega)⟩⟩
    · rw [if_neg d]; exact ⟨1, rfl, Or.inr rfl, ⟨fun _ => ⟨m, x3.mp (by omega)⟩, fun _ => rfl⟩⟩
