/-! loops that count up; is a square attacked; kings -/
theorem lp_run {σ α : Type} (F : Nat → Nat → σ → Option α) (N : Nat) (k : σ → Option α) (Q : Option α → Prop) (I : Nat → σ → Prop)
    (hend : ∀ n s, I N s → F (n + 1) N s = k s)
    (hstep : ∀ n i s, i < N → I i s → (∃ s', I (i + 1) s' ∧ F (n + 1) i s = F n (i + 1) s') ∨ Q (F (n + 1) i s)) :
    ∀ (m i : Nat) (s : σ) (n : Nat), i + m = N → I i s → m < n → (∃ s', I N s' ∧ F n i s = k s') ∨ Q (F n i s) := by
  intro m
  induction m with
  | zero =>
    intro i s n hi hI hn
    obtain ⟨n', rfl⟩ : ∃ n', n = n' + 1 := ⟨n - 1, by omega⟩
    have : i = N := by omega
    subst this
    exact Or.inl ⟨s, hI, hend n' s hI⟩
  | succ m ih =>
    intro i s n hi hI hn
    obtain ⟨n', rfl⟩ : ∃ n', n = n' + 1 := ⟨n - 1, by omega⟩
    rcases hstep n' i s (by omega) hI with ⟨s', h1, h2⟩ | h
    · rw [h2]
      exact ih (i + 1) s' n' (by omega) h1 (by omega)
    · exact Or.inr h
theorem lp_all {σ α : Type} (F : Nat → Nat → σ → Option α) (N : Nat) (k : σ → Option α) (I : Nat → σ → Prop)
    (hend : ∀ n s, I N s → F (n + 1) N s = k s)
    (hstep : ∀ n i s, i < N → I i s → ∃ s', I (i + 1) s' ∧ F (n + 1) i s = F n (i + 1) s') (s : σ) (n : Nat) (hI : I 0 s) (hn : N < n) : ∃ s', I N s' ∧ F n 0 s = k s' := by
  rcases lp_run F N k (fun _ => False) I hend (fun n i s hi h => Or.inl (hstep n i s hi h)) N 0 s n (by omega) hI hn with h | h
  · exact h
  · exact h.elim
theorem lp_ex {σ α : Type} (F : Nat → Nat → σ → Option α) (N : Nat) (k : σ → Option α) (Q : Option α → Prop) (I : Nat → σ → Prop)
    (hend : ∀ n s, I N s → F (n + 1) N s = k s)
    (hstep : ∀ n i s, i < N → I i s → (∃ s', I (i + 1) s' ∧ F (n + 1) i s = F n (i + 1) s') ∨ Q (F (n + 1) i s)) (hk : ∀ s, I N s → Q (k s)) (s : σ) (n : Nat) (hI : I 0 s) (hn : N < n) : Q (F n 0 s) := by
  rcases lp_run F N k Q I hend hstep N 0 s n (by omega) hI hn with ⟨s', h1, h2⟩ | h
  · rw [h2]; exact hk s' h1
  · exact h
theorem ex_lt_succ {P : Nat → Prop} {i : Nat} : (∃ k, k < i + 1 ∧ P k) ↔ (∃ k, k < i ∧ P k) ∨ P i := by
  constructor
  · rintro ⟨k, h1, h2⟩
    by_cases e : k = i
    · exact Or.inr (e ▸ h2)
    · exact Or.inl ⟨k, by omega, h2⟩
  · rintro (⟨k, h1, h2⟩ | h)
    · exact ⟨k, by omega, h2⟩
    · exact ⟨i, by omega, h⟩
theorem all_lt_succ {P : Nat → Prop} {i : Nat} : (∀ k, k < i + 1 → P k) ↔ (∀ k, k < i → P k) ∧ P i := by
  constructor
  · intro h; exact ⟨fun k hk => h k (by omega), h i (by omega)⟩
  · rintro ⟨h1, h2⟩ k hk
    by_cases e : k = i
    · exact e ▸ h2
    · exact h1 k (by omega)
def ct3 (h : jH) : Prop := ∀ s, s < 64 → 0 ≤ h 3 s ∧ h 3 s ≤ 12
/-- attacked, by rays and leaps -/
theorem atd_hit {b : Nat → Int} {t : Nat} {side : Int} (hB : BR b) (ht : t < 64) (hsd : side = 0 ∨ side = 1) :
    atd b t side ↔ (∃ d, d < 8 ∧ hit b t side (ray t d)) ∨ (∃ d, d < 8 ∧ lep b t side d) := by
  constructor
  · rintro ⟨s, hs, d, hd, h⟩
    have h2 := (atk_iff hB ht hs hsd).mp ⟨d, hd, h⟩
    rcases h with ⟨h3, h4, -⟩ | ⟨h3, h4⟩
    · exact Or.inl ⟨d, hd, s, h3, h4, h2.2⟩
    · refine Or.inr ⟨d, hd, s, h3, h2.1, ?_⟩
      rw [h4]
      rcases hsd with e | e <;> subst e <;> decide
  · rintro (⟨d, hd, x, h1, h2, h3⟩ | ⟨d, hd, x, h1, h2, h3⟩)
    · have hx : x < 64 := by
        obtain ⟨i, hi, -⟩ := (fst1_iff b _ x).mp h1
        exact (ray_lt t ht d hd x (List.mem_of_getElem? hi)).1
      exact ⟨x, hx, (atk_iff hB ht hx hsd).mpr ⟨h2, h3⟩⟩
    · have hx : x < 64 := by
        have := shf_rng (t : Int) (KF d) (KR d)
        omega
      refine ⟨x, hx, (atk_iff hB ht hx hsd).mpr ⟨h2, Or.inr (Or.inl ⟨h3, ?_⟩)⟩⟩
      exact (leap_tab t ht x hx).mpr ⟨d, hd, h1⟩
theorem atd_iff {b : Nat → Int} {t : Nat} {side : Int} (hB : BR b) (ht : t < 64) (hsd : side = 0 ∨ side = 1) :
    atd b t side ↔ ∃ s, s < 64 ∧ sd (b s) = side ∧ attR b s t := by
  constructor
  · rintro ⟨s, hs, h⟩; exact ⟨s, hs, (atk_iff hB ht hs hsd).mp h⟩
  · rintro ⟨s, hs, h⟩; exact ⟨s, hs, (atk_iff hB ht hs hsd).mpr h⟩
def dk (k : Nat) : Nat := [5, 6, 7, 4, 0, 0, 3, 2, 1].getD k 0
def jkn (k : Nat) : Nat := [1, 0, 6, 7, 2, 3, 5, 4].getD k 0
theorem dk_tab : ∀ k : Nat, k < 9 → k ≠ 4 → dk k < 8 ∧ jsub (jdiv (k : Int) 3) 1 = RS (dk k) ∧ jsub (jrem (k : Int) 3) 1 = FS (dk k) := by decide +kernel
theorem dk_sur : ∀ d : Nat, d < 8 → ∃ k, k < 9 ∧ k ≠ 4 ∧ dk k = d := by decide +kernel
theorem jkn_tab : ∀ k : Nat, k < 8 → jkn k < 8 ∧ (if 4 ≤ (k : Int) then jneg (jadd (jrem (k : Int) 2) 1) else jadd (jrem (k : Int) 2) 1) = KR (jkn k) ∧ (if jrem (jdiv (k : Int) 2) 2 = 0 then jsub 3 (jadd (jrem (k : Int) 2) 1) else jsub (jadd (jrem (k : Int) 2) 1) 3) = KF (jkn k) := by decide +kernel
theorem jkn_sur : ∀ d : Nat, d < 8 → ∃ k, k < 8 ∧ jkn k = d := by decide +kernel
theorem ia_ok (h : jH) {p t : Nat} {side : Int} (hp : p < 304) (ht : t < 64) (hB : BR (mb h p)) (hsd : side = 0 ∨ side = 1) :
    ∃ v, f_M_isAttacked h (p : Int) (t : Int) side = some v ∧ (v = 0 ∨ v = 1) ∧ (v = 1 ↔ atd (mb h p) t side) := by
  have fin : ∀ v : Int, (v = 0 ∨ v = 1) → (v = 1 ↔ ∃ k, k < 9 ∧ k ≠ 4 ∧ hit (mb h p) t side (ray t (dk k))) → ∃ w, f_M_isAttacked_j59 h (p : Int) (t : Int) side v = some w ∧ (w = 0 ∨ w = 1) ∧ (w = 1 ↔ atd (mb h p) t side) := by
    intro v hv hiff
    unfold f_M_isAttacked_j59
    refine lp_ex (fun n (i : Nat) (s : Int) => f_M_isAttacked_lp62 h (p : Int) (t : Int) side (fun l31 l32 => jgd (l31 = 0 ∨ l31 = 1) (some l31)) n s (i : Int)) 8 (fun s => jgd (s = 0 ∨ s = 1) (some s)) (fun o => ∃ w, o = some w ∧ (w = 0 ∨ w = 1) ∧ (w = 1 ↔ atd (mb h p) t side))
      (fun i s => (s = 0 ∨ s = 1) ∧ (s = 1 ↔ (∃ k, k < 9 ∧ k ≠ 4 ∧ hit (mb h p) t side (ray t (dk k))) ∨ ∃ k, k < i ∧ lep (mb h p) t side (jkn k))) ?_ ?_ ?_ v 1000 ?_ (by omega)
    · intro n s hs
      show f_M_isAttacked_lp62 _ _ _ _ _ (n + 1) s _ = _
      rw [f_M_isAttacked_lp62, if_pos (by omega)]
    · intro n i s hi hs
      obtain ⟨h1, h2⟩ := hs
      show (∃ s', _ ∧ f_M_isAttacked_lp62 _ _ _ _ _ (n + 1) s _ = f_M_isAttacked_lp62 _ _ _ _ _ n s' ((i + 1 : Nat) : Int)) ∨ _
      rcases h1 with h1 | h1
      · left
        subst h1
        rw [f_M_isAttacked_lp62, if_neg (by omega), if_pos rfl]
        unfold f_M_isAttacked_j100_62 f_M_isAttacked_j120_62
        obtain ⟨q1, q2, q3⟩ := jkn_tab i hi
        rw [q2, q3]
        obtain ⟨v, v1, v2, v3⟩ := jm_ok h hp ht q1 hB hsd
        rw [v1]
        simp only [Option.bind_some]
        refine ⟨v, ⟨v2, ?_⟩, ?_⟩
        · rw [ex_lt_succ (i := i) (P := fun k => lep (mb h p) t side (jkn k)), v3, ← or_assoc, ← h2]
          constructor
          · exact Or.inr
          · rintro (z | z)
            · cases z
            · exact z
        · rw [jadd_eq (by omega) (by omega)]; rfl
      · right
        subst h1
        show ∃ w, f_M_isAttacked_lp62 _ _ _ _ _ (n + 1) 1 _ = some w ∧ _
        rw [f_M_isAttacked_lp62, if_neg (by omega), if_neg (by decide), jgd_pos (Or.inr rfl)]
        refine ⟨1, rfl, Or.inr rfl, ⟨fun _ => (atd_hit hB ht hsd).mpr ?_, fun _ => rfl⟩⟩
        rcases h2.mp rfl with ⟨k, k1, k2, k3⟩ | ⟨k, k1, k2⟩
        · exact Or.inl ⟨dk k, (dk_tab k k1 k2).1, k3⟩
        · exact Or.inr ⟨jkn k, (jkn_tab k (by omega)).1, k2⟩
    · intro s hs
      obtain ⟨h1, h2⟩ := hs
      rw [jgd_pos h1]
      refine ⟨s, rfl, h1, h2.trans ?_⟩
      rw [atd_hit hB ht hsd]
      constructor
      · rintro (⟨k, k1, k2, k3⟩ | ⟨k, k1, k2⟩)
        · exact Or.inl ⟨dk k, (dk_tab k k1 k2).1, k3⟩
        · exact Or.inr ⟨jkn k, (jkn_tab k (by omega)).1, k2⟩
      · rintro (⟨d, d1, d2⟩ | ⟨d, d1, d2⟩)
        · obtain ⟨k, k1, k2, k3⟩ := dk_sur d d1
          exact Or.inl ⟨k, k1, k2, by rw [k3]; exact d2⟩
        · obtain ⟨k, k1, k2⟩ := jkn_sur d d1
          exact Or.inr ⟨k, k1, by rw [k2]; exact d2⟩
    · refine ⟨hv, hiff.trans ⟨Or.inl, ?_⟩⟩
      rintro (z | ⟨k, k1, -⟩)
      · exact z
      · omega
  unfold f_M_isAttacked
  refine lp_ex (fun n (i : Nat) (s : Int) => f_M_isAttacked_lp6 h (p : Int) (t : Int) side (fun l7 l8 => f_M_isAttacked_j59 h (p : Int) (t : Int) side l7) n s (i : Int)) 9 (fun s => f_M_isAttacked_j59 h (p : Int) (t : Int) side s) (fun o => ∃ w, o = some w ∧ (w = 0 ∨ w = 1) ∧ (w = 1 ↔ atd (mb h p) t side))
    (fun i s => (s = 0 ∨ s = 1) ∧ (s = 1 ↔ (∃ k, k < i ∧ k ≠ 4 ∧ hit (mb h p) t side (ray t (dk k))))) ?_ ?_ ?_ 0 1000 ?_ (by omega)
  · intro n s hs
    show f_M_isAttacked_lp6 _ _ _ _ _ (n + 1) s _ = _
    rw [f_M_isAttacked_lp6, if_pos (by omega)]
  · intro n i s hi hs
    obtain ⟨h1, h2⟩ := hs
    show (∃ s', _ ∧ f_M_isAttacked_lp6 _ _ _ _ _ (n + 1) s _ = f_M_isAttacked_lp6 _ _ _ _ _ n s' ((i + 1 : Nat) : Int)) ∨ (∃ w, f_M_isAttacked_lp6 _ _ _ _ _ (n + 1) s _ = _ ∧ _)
    rcases h1 with h1 | h1
    · left
      subst h1
      rw [f_M_isAttacked_lp6, if_neg (by omega), if_pos rfl, jadd_eq (a := (i : Int)) (by omega) (by omega)]
      by_cases h4 : i = 4
      · rw [if_pos (by omega)]
        refine ⟨0, ⟨Or.inl rfl, ?_⟩, rfl⟩
        rw [ex_lt_succ, ← h2]
        constructor
        · intro z; cases z
        · rintro (z | z)
          · exact z
          · exact absurd h4 z.1
      · rw [if_neg (by omega)]
        obtain ⟨q1, q2, q3⟩ := dk_tab i hi h4
        rw [q2, q3]
        obtain ⟨v, v1, v2, v3⟩ := sn_ok h hp ht q1 hB hsd
        rw [v1]
        simp only [Option.bind_some]
        refine ⟨v, ⟨v2, ?_⟩, ?_⟩
        · rw [ex_lt_succ, v3, ← h2]
          constructor
          · exact fun z => Or.inr ⟨h4, z⟩
          · rintro (z | z)
            · cases z
            · exact z.2
        · rcases v2 with e | e <;> subst e <;> rfl
    · right
      subst h1
      rw [f_M_isAttacked_lp6, if_neg (by omega), if_neg (by decide)]
      refine fin 1 (Or.inr rfl) ⟨fun _ => ?_, fun _ => rfl⟩
      obtain ⟨k, k1, k2⟩ := h2.mp rfl
      exact ⟨k, by omega, k2⟩
  · intro s hs
    exact fin s hs.1 hs.2
  · exact ⟨Or.inl rfl, ⟨fun z => (by cases z), fun ⟨k, k1, _⟩ => (by omega)⟩⟩
/-- the one king of a side -/
def kp (side : Int) : Int := if side = 0 then 6 else 12
def uk (b : Nat → Int) (side : Int) (k : Nat) : Prop := k < 64 ∧ b k = kp side ∧ ∀ s, s < 64 → b s = kp side → s = k
theorem ko_ok (h : jH) {p k : Nat} {side : Int} (hp : p < 304) (hu : uk (mb h p) side k) : f_M_kingOf h (p : Int) side = some (k : Int) := by
  obtain ⟨u1, u2, u3⟩ := hu
  unfold f_M_kingOf
  obtain ⟨s', h1, h2⟩ := lp_all (fun n (i : Nat) (s : Int) => f_M_kingOf_lp5 h (p : Int) side (fun l10 l11 => some l10) n s (i : Int)) 64 (fun s => some s)
    (fun i s => if k < i then s = (k : Int) else s = -1) (by
      intro n s hs
      show f_M_kingOf_lp5 _ _ _ _ (n + 1) s _ = _
      rw [f_M_kingOf_lp5, if_pos (by omega)]) (by
      intro n i s hi hs
      show ∃ s', _ ∧ f_M_kingOf_lp5 _ _ _ _ (n + 1) s _ = f_M_kingOf_lp5 _ _ _ _ n s' ((i + 1 : Nat) : Int)
      refine ⟨if mb h p i = kp side then (i : Int) else s, ?_, ?_⟩
      · by_cases e : i = k
        · subst e; rw [if_pos (by omega), if_pos u2]
        · rw [if_neg (fun z => e (u3 i hi z))]
          by_cases e2 : k < i
          · rw [if_pos (by omega)]; rw [if_pos e2] at hs; exact hs
          · rw [if_neg (by omega)]; rw [if_neg e2] at hs; exact hs
      · rw [f_M_kingOf_lp5, if_neg (by omega), pc_ok h hp hi]
        simp only [Option.bind_some]
        unfold f_M_kingOf_j30_5
        rw [jadd_eq (a := (i : Int)) (by omega) (by omega)]
        rfl) (-1) 1000 (by rw [if_neg (by omega)]) (by omega)
  rw [if_pos u1] at h1
  rw [h1] at h2
  exact h2
theorem ks_ok (h : jH) (r : Nat) {k : Nat} {side : Int} (hu : uk (h (r + 1)) side k) : f_Bd_kingSquare r h side = some (k : Int) := by
  obtain ⟨u1, u2, u3⟩ := hu
  unfold f_Bd_kingSquare
  rw [po_ok h (by omega) (by omega)]
  simp only [Option.bind_some]
  refine lp_ex (fun n (i : Nat) (_ : Unit) => f_Bd_kingSquare_lp9 r h (if side = 0 then 6 else 6 + 6) (fun l2 => some (-1)) n (i : Int)) 64 (fun _ => some (-1)) (fun o => o = some (k : Int)) (fun i _ => i ≤ k) ?_ ?_ ?_ () 1000 (by omega) (by omega)
  · intro n s hs; omega
  · intro n i s hi hs
    show (∃ s' : Unit, _ ∧ f_Bd_kingSquare_lp9 _ _ _ _ (n + 1) _ = f_Bd_kingSquare_lp9 _ _ _ _ n ((i + 1 : Nat) : Int)) ∨ f_Bd_kingSquare_lp9 _ _ _ _ (n + 1) _ = _
    rw [f_Bd_kingSquare_lp9, if_neg (by omega), jgd_pos (by omega), Int.toNat_natCast]
    by_cases e : i = k
    · right
      subst e
      rw [if_pos (by rw [u2]; unfold kp; rfl)]
    · left
      refine ⟨(), by omega, ?_⟩
      rw [if_neg (fun z => e (u3 i hi (by rw [z]; unfold kp; rfl))), jadd_eq (by omega) (by omega)]
      rfl
  · intro s hs; omega
