/-! counting moves -/
noncomputable def ind (P : Prop) : Nat := @ite Nat P (Classical.propDecidable P) 1 0
theorem ind_1 {P : Prop} (h : P) : ind P = 1 := if_pos h
theorem ind_0 {P : Prop} (h : ¬ P) : ind P = 0 := if_neg h
theorem ind_le (P : Prop) : ind P ≤ 1 := by
  by_cases c : P
  · rw [ind_1 c]; exact Nat.le_refl _
  · rw [ind_0 c]; omega
theorem ind_c {P Q : Prop} (h : P ↔ Q) : ind P = ind Q := by
  by_cases c : P
  · rw [ind_1 c, ind_1 (h.mp c)]
  · rw [ind_0 c, ind_0 (fun q => c (h.mpr q))]
def sm (f : Nat → Nat) : Nat → Nat
  | 0 => 0
  | n + 1 => sm f n + f n
theorem sm_succ (f : Nat → Nat) (n : Nat) : sm f (n + 1) = sm f n + f n := rfl
theorem sm_congr {f g : Nat → Nat} : ∀ n, (∀ i, i < n → f i = g i) → sm f n = sm g n := by
  intro n
  induction n with
  | zero => intro _; rfl
  | succ n ih => intro h; rw [sm_succ, sm_succ, ih (fun i hi => h i (by omega)), h n (by omega)]
theorem sm_add (f g : Nat → Nat) : ∀ n, sm (fun i => f i + g i) n = sm f n + sm g n := by
  intro n
  induction n with
  | zero => rfl
  | succ n ih => rw [sm_succ, sm_succ, sm_succ, ih]; omega
theorem sm_mul (f : Nat → Nat) (c : Nat) : ∀ n, sm (fun i => c * f i) n = c * sm f n := by
  intro n
  induction n with
  | zero => rfl
  | succ n ih => rw [sm_succ, sm_succ, ih, Nat.mul_add]
theorem sm_0 : ∀ n, sm (fun _ => 0) n = 0 := by
  intro n
  induction n with
  | zero => rfl
  | succ n ih => rw [sm_succ, ih]
theorem sm_swap (f : Nat → Nat → Nat) (m : Nat) : ∀ n, sm (fun i => sm (fun j => f i j) m) n = sm (fun j => sm (fun i => f i j) n) m := by
  intro n
  induction n with
  | zero => exact (sm_0 m).symm
  | succ n ih => rw [sm_succ, ih, ← sm_add]; rfl
theorem sm_le {f : Nat → Nat} {c : Nat} (h : ∀ i, f i ≤ c) : ∀ n, sm f n ≤ c * n := by
  intro n
  induction n with
  | zero => exact Nat.le_refl _
  | succ n ih => rw [sm_succ, Nat.mul_succ]; have := h n; omega
theorem sm_mono (f : Nat → Nat) {a b : Nat} (h : a ≤ b) : sm f a ≤ sm f b := by
  induction b with
  | zero => rw [show a = 0 by omega]; exact Nat.le_refl _
  | succ b ih =>
    by_cases c : a = b + 1
    · rw [c]; exact Nat.le_refl _
    · have := ih (by omega); rw [sm_succ]; omega
theorem sm_split (f : Nat → Nat) (a : Nat) : ∀ b, sm f (a + b) = sm f a + sm (fun i => f (a + i)) b := by
  intro b
  induction b with
  | zero => rfl
  | succ b ih => rw [← Nat.add_assoc, sm_succ, sm_succ, ih]; omega
theorem sm_64 (f : Nat → Nat) : ∀ n, sm f (64 * n) = sm (fun q => sm (fun r => f (64 * q + r)) 64) n := by
  intro n
  induction n with
  | zero => rfl
  | succ n ih => rw [Nat.mul_succ, sm_split, ih]; rfl
theorem bc_sm {f : Nat → Bool} {P : Nat → Prop} : ∀ n, (∀ i, i < n → (f i = true ↔ P i)) → bc f n = sm (fun i => ind (P i)) n := by
  intro n
  induction n with
  | zero => intro _; rfl
  | succ n ih =>
    intro h
    rw [bc_succ, sm_succ, ih (fun i hi => h i (by omega))]
    by_cases c : P n
    · rw [ind_1 c, if_pos ((h n (by omega)).mpr c)]
    · rw [ind_0 c, if_neg (fun q => c ((h n (by omega)).mp q))]
/-- legal codes, and how many there are below a number -/
def lgc (L : Nat → Nat → Nat → Prop) (c : Nat) : Prop := L (c % 64) (c / 64 % 64) (c / 4096)
noncomputable def cc (L : Nat → Nat → Nat → Prop) (n : Nat) : Nat := sm (fun c => ind (lgc L c)) n
noncomputable def nm (L : Nat → Nat → Nat → Prop) : Nat := sm (fun x => sm (fun f => ind (L f x 0) + 4 * ind (L f x 1)) 64) 64
def becL (L : Nat → Nat → Nat → Prop) : Prop := ∀ f x c, f < 64 → x < 64 → 1 ≤ c → (L f x c ↔ L f x 1)
theorem cc_row (L : Nat → Nat → Nat → Prop) (e x : Nat) (hx : x < 64) : cc L (4096 * e + 64 * x + 64) = cc L (4096 * e + 64 * x) + sm (fun f => ind (L f x e)) 64 := by
  unfold cc
  rw [sm_split]
  congr 1
  exact sm_congr 64 (fun f hf => by
    unfold lgc
    rw [show (4096 * e + 64 * x + f) % 64 = f by omega, show (4096 * e + 64 * x + f) / 64 % 64 = x by omega, show (4096 * e + 64 * x + f) / 4096 = e by omega])
theorem cc_pl (L : Nat → Nat → Nat → Prop) (e : Nat) : ∀ x, x ≤ 64 → cc L (4096 * e + 64 * x) = cc L (4096 * e) + sm (fun y => sm (fun f => ind (L f y e)) 64) x := by
  intro x
  induction x with
  | zero => intro _; rfl
  | succ x ih =>
    intro hx
    rw [show 4096 * e + 64 * (x + 1) = 4096 * e + 64 * x + 64 by omega, cc_row L e x (by omega), ih (by omega), sm_succ (fun y => sm (fun f => ind (L f y e)) 64) x]
    omega
theorem cc_nm {L : Nat → Nat → Nat → Prop} (hL : becL L) : cc L 20480 = nm L := by
  have st : ∀ e, cc L (4096 * (e + 1)) = cc L (4096 * e) + sm (fun y => sm (fun f => ind (L f y e)) 64) 64 := by
    intro e
    rw [← cc_pl L e 64 (by omega)]
    congr 1
  have b1 : ∀ e, 1 ≤ e → sm (fun y => sm (fun f => ind (L f y e)) 64) 64 = sm (fun y => sm (fun f => ind (L f y 1)) 64) 64 := by
    intro e he
    exact sm_congr 64 (fun y hy => sm_congr 64 (fun f hf => ind_c (hL f y e hf hy he)))
  have s0 := st 0
  have s1 := st 1
  have s2 := st 2
  have s3 := st 3
  have s4 := st 4
  rw [b1 2 (by omega)] at s2
  rw [b1 3 (by omega)] at s3
  rw [b1 4 (by omega)] at s4
  have z : cc L (4096 * 0) = 0 := rfl
  have e5 : cc L 20480 = cc L (4096 * (4 + 1)) := rfl
  have n : nm L = sm (fun y => sm (fun f => ind (L f y 0)) 64) 64 + 4 * sm (fun y => sm (fun f => ind (L f y 1)) 64) 64 := by
    unfold nm
    rw [← sm_mul, ← sm_add]
    exact sm_congr 64 (fun x _ => by rw [sm_add, sm_mul])
  rw [e5, s4, s3, s2, s1, s0, z, n]
  omega
theorem nm_le (L : Nat → Nat → Nat → Prop) : nm L ≤ 20480 := by
  unfold nm
  have := sm_le (f := fun x => sm (fun f => ind (L f x 0) + 4 * ind (L f x 1)) 64) (c := 320) (fun x => by
    have := sm_le (f := fun f => ind (L f x 0) + 4 * ind (L f x 1)) (c := 5) (fun f => by
      have h1 := ind_le (L f x 0)
      have h2 := ind_le (L f x 1)
      show ind (L f x 0) + 4 * ind (L f x 1) ≤ 5
      omega) 64
    omega) 64
  omega
/-- the class's number of moves -/
theorem sz_ok (t : Nat) (h0 g : jH) (L : Nat → Nat → Nat → Prop) (hT : Tb t h0 g L) : f_Mt_size t g = some ((nm L : Nat) : Int) := by
  unfold f_Mt_size
  obtain ⟨s, g1, g2⟩ := lp_all (fun n (i : Nat) (s : Int) => f_Mt_size_lp4 t g (fun l5 l6 => some l5) n s (i : Int)) 64 (fun s => some s)
    (fun i s => s = ((sm (fun x => sm (fun f => ind (L f x 0) + 4 * ind (L f x 1)) 64) i : Nat) : Int) ∧ s ≤ 320 * (i : Int)) (by
      intro n s _
      show f_Mt_size_lp4 _ _ _ (n + 1) s _ = _
      rw [f_Mt_size_lp4, if_pos (by omega)]) (by
      rintro n i s hi ⟨e1, e2⟩
      show ∃ s', _ ∧ f_Mt_size_lp4 _ _ _ (n + 1) s _ = f_Mt_size_lp4 _ _ _ n s' ((i + 1 : Nat) : Int)
      have c0 := bc_sm 64 ((hT.2 0 (by omega) i hi).2)
      have c1 := bc_sm 64 ((hT.2 1 (by omega) i hi).2)
      have l0 := bc_le (bt (g (t + 1 + 0) i)) 64
      have l1 := bc_le (bt (g (t + 1 + 1) i)) 64
      have es : sm (fun f => ind (L f i 0) + 4 * ind (L f i 1)) 64 = bc (bt (g (t + 1) i)) 64 + 4 * bc (bt (g (t + 2) i)) 64 := by
        rw [sm_add, sm_mul, ← c0, ← c1]
      rw [f_Mt_size_lp4, if_neg (by omega), jgd_pos (by omega), Int.toNat_natCast, bcn_ok, bcn_ok]
      simp only [obs]
      rw [jgd_pos (by omega)]
      have l0' : bc (bt (g (t + 1) i)) 64 ≤ 64 := l0
      have l1' : bc (bt (g (t + 2) i)) 64 ≤ 64 := l1
      rw [jmul_eq (by omega) (by omega), jadd_eq (a := ((bc (bt (g (t + 1) i)) 64 : Nat) : Int)) (by omega) (by omega), jadd_eq (a := s) (by omega) (by omega), jadd_eq (a := (i : Int)) (by omega) (by omega)]
      refine ⟨_, ⟨?_, ?_⟩, rfl⟩
      · rw [sm_succ (fun x => sm (fun f => ind (L f x 0) + 4 * ind (L f x 1)) 64) i, es, e1]; omega
      · omega) 0 1000 ⟨rfl, by omega⟩ (by omega)
  rw [g1.1] at g2
  exact g2
theorem gat_ok2 (t : Nat) (h : jH) (ht : 11 ≤ t) (hP : PosX h) : ∃ g, f_Mt_gather t h = some (((nm (lgX h) : Nat) : Int), g) ∧ Tb t h g (lgX h) := by
  obtain ⟨g, g1, g2⟩ := gat_ok t h ht hP
  refine ⟨g, ?_, g2⟩
  rw [g1]
  unfold f_Mt_gather_j121
  rw [sz_ok t h g _ g2]
  simp only [obs]
/-- which bit has so many below it -/
theorem rank_ex {f : Nat → Bool} {m : Nat} : ∀ k, m < bc f k → ∃ j, j < k ∧ f j = true ∧ bc f j = m := by
  intro k
  induction k with
  | zero => intro h; exact absurd h (Nat.not_lt_zero _)
  | succ k ih =>
    intro h
    rw [bc_succ] at h
    by_cases c : m < bc f k
    · obtain ⟨j, j1, j2⟩ := ih c
      exact ⟨j, by omega, j2⟩
    · by_cases e : f k = true
      · rw [if_pos e] at h
        exact ⟨k, by omega, e, by omega⟩
      · rw [if_neg e] at h; omega
theorem bc_mono (f : Nat → Bool) {a b : Nat} (h : a ≤ b) : bc f a ≤ bc f b := by
  induction b with
  | zero => rw [show a = 0 by omega]; exact Nat.le_refl _
  | succ b ih =>
    by_cases c : a = b + 1
    · rw [c]; exact Nat.le_refl _
    · have := ih (by omega); rw [bc_succ]; omega
theorem bc_lt {f : Nat → Bool} {a b : Nat} (h : a < b) (ha : f a = true) : bc f a < bc f b := by
  have := bc_mono f (show a + 1 ≤ b by omega)
  rw [bc_succ, if_pos ha] at this
  omega
theorem bn_lp (h : jH) (bits : Int) (i : Nat) (hi : i < bc (bt bits) 64) : ∀ (m n : Nat) (lf : Int), m ≤ i → i - m < n → (∀ j, j < 64 → (bt lf j = true ↔ bt bits j = true ∧ m ≤ bc (bt bits) j)) →
    ∃ k, f_Mt_bitNumber_lp5 h (i : Int) (fun l4 l5 => (f_Jl_numberOfTrailingZeros h l4).bind fun v6 => some v6) n lf (m : Int) = some ((k : Nat) : Int) ∧ k < 64 ∧ bt bits k = true ∧ bc (bt bits) k = i := by
  have low1 : ∀ (m : Nat) (lf : Int), m ≤ i → (∀ j, j < 64 → (bt lf j = true ↔ bt bits j = true ∧ m ≤ bc (bt bits) j)) → ∃ k, k < 64 ∧ low (uv lf) k ∧ bt bits k = true ∧ bc (bt bits) k = m := by
    intro m lf hm hb
    obtain ⟨j, j1, j2, j3⟩ := rank_ex (f := bt bits) (m := m) 64 (by omega)
    have hj : bt lf j = true := (hb j j1).mpr ⟨j2, by omega⟩
    obtain ⟨k, k1, k2, k3⟩ := low_ex (f := bt lf) 64 ⟨j, j1, hj⟩
    have hk := (hb k k1).mp k2
    refine ⟨k, k1, ⟨by rw [← bt_uv]; exact k2, fun q hq => by rw [← bt_uv]; exact k3 q hq⟩, hk.1, ?_⟩
    have hkj : k ≤ j := by
      by_cases c : k ≤ j
      · exact c
      · have := k3 j (by omega); rw [hj] at this; cases this
    have := bc_mono (bt bits) hkj
    omega
  intro m
  generalize hd : i - m = d
  induction d generalizing m with
  | zero =>
    intro n lf hm hn hb
    obtain ⟨n', rfl⟩ : ∃ n', n = n' + 1 := ⟨n - 1, by omega⟩
    obtain ⟨k, k1, k2, k3, k4⟩ := low1 m lf hm hb
    rw [f_Mt_bitNumber_lp5, if_pos (by omega), ntz_ok h lf k1 k2]
    simp only [obs]
    exact ⟨k, rfl, k1, k3, by omega⟩
  | succ d ih =>
    intro n lf hm hn hb
    obtain ⟨n', rfl⟩ : ∃ n', n = n' + 1 := ⟨n - 1, by omega⟩
    obtain ⟨k, k1, k2, k3, k4⟩ := low1 m lf hm hb
    have h64 := bc_le (bt bits) 64
    rw [f_Mt_bitNumber_lp5, if_neg (by omega), jadd_eq (by omega) (by omega), show (m : Int) + 1 = ((m + 1 : Nat) : Int) by omega]
    refine ih (m + 1) (by omega) n' _ (by omega) (by omega) (fun j hj => ?_)
    rw [clr_ok k2, Bool.and_eq_true, hb j hj]
    constructor
    · rintro ⟨⟨q1, q2⟩, q3⟩
      refine ⟨q1, ?_⟩
      have hjk : j ≠ k := by simpa using q3
      by_cases c : j < k
      · have := bc_lt (f := bt bits) c q1; omega
      · have := bc_lt (f := bt bits) (show k < j by omega) k3; omega
    · rintro ⟨q1, q2⟩
      refine ⟨⟨q1, by omega⟩, ?_⟩
      have hjk : j ≠ k := fun e => by subst e; omega
      simpa using hjk
theorem bn_ok (h : jH) (bits : Int) (i : Nat) (hi : i < bc (bt bits) 64) : ∃ k, f_Mt_bitNumber h bits (i : Int) = some ((k : Nat) : Int) ∧ k < 64 ∧ bt bits k = true ∧ bc (bt bits) k = i := by
  unfold f_Mt_bitNumber
  have := bc_le (bt bits) 64
  exact bn_lp h bits i hi 0 1000 bits (by omega) (by omega) (fun j _ => ⟨fun q => ⟨q, Nat.zero_le _⟩, fun q => q.1⟩)
/-- the code of move i -/
def cdS (L : Nat → Nat → Nat → Prop) (i : Nat) (v : Int) : Prop := (∃ c, c < 20480 ∧ lgc L c ∧ cc L c = i ∧ v = (c : Int)) ∨ (cc L 20480 ≤ i ∧ v = -1)
theorem cc_lt {L : Nat → Nat → Nat → Prop} {c d : Nat} (h : c < d) (hc : lgc L c) : cc L c < cc L d := by
  have := sm_mono (fun c => ind (lgc L c)) (show c + 1 ≤ d by omega)
  rw [sm_succ, ind_1 hc] at this
  unfold cc; omega
theorem cdS_one {L : Nat → Nat → Nat → Prop} {i : Nat} {v w : Int} (h1 : cdS L i v) (h2 : cdS L i w) : v = w := by
  rcases h1 with ⟨c, c1, c2, c3, c4⟩ | ⟨c1, c2⟩ <;> rcases h2 with ⟨d, d1, d2, d3, d4⟩ | ⟨d1, d2⟩
  · rw [c4, d4]
    by_cases e : c < d
    · have := cc_lt e c2; omega
    · by_cases e2 : d < c
      · have := cc_lt e2 d2; omega
      · omega
  · have := cc_lt c1 c2; omega
  · have := cc_lt d1 d2; omega
  · rw [c2, d2]
