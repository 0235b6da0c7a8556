/-! small numbers: what the operations answer within their ranges -/
theorem jadd_eq {a b : Int} (h1 : -2147483648 ≤ a + b) (h2 : a + b < 2147483648) : jadd a b = a + b := w32_id h1 h2
theorem jsub_eq {a b : Int} (h1 : -2147483648 ≤ a - b) (h2 : a - b < 2147483648) : jsub a b = a - b := w32_id h1 h2
theorem jmul_eq {a b : Int} (h1 : -2147483648 ≤ a * b) (h2 : a * b < 2147483648) : jmul a b = a * b := w32_id h1 h2
theorem jneg_eq {a : Int} (h1 : -2147483648 ≤ -a) (h2 : -a < 2147483648) : jneg a = -a := w32_id h1 h2
theorem of_nI {a : Int} (h0 : 0 ≤ a) (h1 : a < 2147483648) : Int32.ofInt a = nI a.toNat := by
  apply Int32.toInt_inj.mp
  rw [jn_toInt, w32_id (by omega) (by omega), nI_toInt (by omega)]
  omega
theorem jand_lit {a m : Int} (k : Nat) (hk : k ≤ 30) (hm : (Int32.ofInt m).toBitVec.toNat = 2 ^ k - 1) (h0 : 0 ≤ a) (h1 : a < 2147483648) : jand a m = a % ((2 ^ k : Nat) : Int) := by
  unfold jand
  rw [of_nI h0 h1, pk_andN (by omega) k hm, nI_toInt (by have := Nat.mod_lt a.toNat (Nat.two_pow_pos k); have : 2 ^ k ≤ 2 ^ 30 := Nat.pow_le_pow_right (by decide) hk; omega)]
  have e : a = (a.toNat : Int) := by omega
  rw [e]
  simp
theorem jand1 {a : Int} (h0 : 0 ≤ a) (h1 : a < 2147483648) : jand a 1 = a % 2 := jand_lit 1 (by decide) (by decide) h0 h1
theorem jand7 {a : Int} (h0 : 0 ≤ a) (h1 : a < 2147483648) : jand a 7 = a % 8 := jand_lit 3 (by decide) (by decide) h0 h1
theorem jand63 {a : Int} (h0 : 0 ≤ a) (h1 : a < 2147483648) : jand a 63 = a % 64 := jand_lit 6 (by decide) (by decide) h0 h1
theorem jand127 {a : Int} (h0 : 0 ≤ a) (h1 : a < 2147483648) : jand a 127 = a % 128 := jand_lit 7 (by decide) (by decide) h0 h1
theorem jand255 {a : Int} (h0 : 0 ≤ a) (h1 : a < 2147483648) : jand a 255 = a % 256 := jand_lit 8 (by decide) (by decide) h0 h1
theorem jshr_lit {a s : Int} (k : Nat) (hs : ((Int32.ofInt s &&& 31).toBitVec.smod 32).toNat = k) (h0 : 0 ≤ a) (h1 : a < 2147483648) : jshr a s = a / ((2 ^ k : Nat) : Int) := by
  unfold jshr
  have hle : a.toNat / 2 ^ k ≤ a.toNat := Nat.div_le_self _ _
  rw [of_nI h0 h1, pk_shrN (by omega) _ k hs, nI_toInt (by omega)]
  have e : a = (a.toNat : Int) := by omega
  rw [e]
  simp
theorem jshr3 {a : Int} (h0 : 0 ≤ a) (h1 : a < 2147483648) : jshr a 3 = a / 8 := jshr_lit 3 (by decide) h0 h1
theorem jshr6 {a : Int} (h0 : 0 ≤ a) (h1 : a < 2147483648) : jshr a 6 = a / 64 := jshr_lit 6 (by decide) h0 h1
theorem jshr12 {a : Int} (h0 : 0 ≤ a) (h1 : a < 2147483648) : jshr a 12 = a / 4096 := jshr_lit 12 (by decide) h0 h1
theorem jdiv_eq {a b : Int} (h0 : 0 ≤ a) (h1 : a < 2147483648) (hb0 : 0 < b) (hb1 : b < 2147483648) : jdiv a b = a / b := by
  unfold jdiv
  have hle : a.toNat / b.toNat ≤ a.toNat := Nat.div_le_self _ _
  rw [of_nI h0 h1, of_nI (by omega) hb1, pk_div (by omega) (by omega) (by omega), nI_toInt (by omega)]
  have e : a = (a.toNat : Int) := by omega
  have e2 : b = (b.toNat : Int) := by omega
  rw [e, e2]
  simp
theorem jrem_eq {a b : Int} (h0 : 0 ≤ a) (h1 : a < 2147483648) (hb0 : 0 < b) (hb1 : b < 2147483648) : jrem a b = a % b := by
  unfold jrem
  have hlt : a.toNat % b.toNat < b.toNat := Nat.mod_lt _ (by omega)
  rw [of_nI h0 h1, of_nI (by omega) hb1, pk_rem (by omega) (by omega) (by omega), nI_toInt (by omega)]
  have e : a = (a.toNat : Int) := by omega
  have e2 : b = (b.toNat : Int) := by omega
  rw [e, e2]
  simp
/-! writes read back -/
theorem jcp_s (h : jH) (a : Nat) (f : Nat → Int) : jcp h a f a = f := by unfold jcp; rw [if_pos rfl]
theorem jcp_n (h : jH) {a b : Nat} (f : Nat → Int) (hne : b ≠ a) : jcp h a f b = h b := by unfold jcp; rw [if_neg hne]
theorem jup_n (h : jH) {a b : Nat} (k : Nat) (v : Int) (hne : b ≠ a) : jup h a k v b = h b := jcp_n h _ hne
theorem jup_s (h : jH) (a k : Nat) (v : Int) (j : Nat) : jup h a k v a j = if j = k then v else h a j := by unfold jup; rw [jcp_s]
theorem jup_ss (h : jH) (a k : Nat) (v : Int) : jup h a k v a k = v := by rw [jup_s, if_pos rfl]
theorem jup_sn (h : jH) (a : Nat) {j k : Nat} (v : Int) (hne : j ≠ k) : jup h a k v a j = h a j := by rw [jup_s, if_neg hne]
theorem jH_ext {h g : jH} (e : ∀ a k, h a k = g a k) : h = g := by funext a k; exact e a k
/-! bits of longs -/
def bt (v : Int) (i : Nat) : Bool := (BitVec.ofInt 64 v).getLsbD i
theorem bv_of (x : Int64) : BitVec.ofInt 64 x.toInt = x.toBitVec := by
  have h := Int64.toBitVec_ofInt x.toInt
  rw [Int64.ofInt_toInt] at h
  exact h.symm
theorem bt_or (a b : Int) (i : Nat) : bt (jlor a b) i = (bt a i || bt b i) := by
  unfold bt jlor
  rw [bv_of]
  simp
theorem bt_and (a b : Int) (i : Nat) : bt (jland a b) i = (bt a i && bt b i) := by
  unfold bt jland
  rw [bv_of]
  simp
theorem bt_0 (i : Nat) : bt 0 i = false := by unfold bt; simp
theorem bt_ext {a b : Int} (ha : ok64 a) (hb : ok64 b) (h : ∀ i, i < 64 → bt a i = bt b i) : a = b := by
  have e : BitVec.ofInt 64 a = BitVec.ofInt 64 b := by
    apply BitVec.eq_of_getLsbD_eq
    intro i hi
    exact h i hi
  have h2 : Int64.ofInt a = Int64.ofInt b := by
    apply Int64.toBitVec.inj
    rw [Int64.toBitVec_ofInt, Int64.toBitVec_ofInt, e]
  exact (jl_inj ha hb).mp h2
theorem bt_one : ∀ s : Fin 64, BitVec.ofInt 64 (jlshl 1 (s.val : Int)) = BitVec.twoPow 64 s.val := by decide +kernel
theorem bt_shl {s : Int} (h0 : 0 ≤ s) (h1 : s < 64) (i : Nat) (hi : i < 64) : bt (jlshl 1 s) i = decide (i = s.toNat) := by
  have h := bt_one ⟨s.toNat, by omega⟩
  have e : ((s.toNat : Nat) : Int) = s := by omega
  have h2 : BitVec.ofInt 64 (jlshl 1 s) = BitVec.twoPow 64 s.toNat := by
    have h3 : BitVec.ofInt 64 (jlshl 1 ((s.toNat : Nat) : Int)) = BitVec.twoPow 64 s.toNat := h
    rw [e] at h3
    exact h3
  unfold bt
  rw [h2, BitVec.getLsbD_twoPow]
  by_cases hh : i = s.toNat
  · subst hh; simp [hi]
  · simp [hh, Ne.symm hh]
theorem jlor_ok (a b : Int) : ok64 (jlor a b) := jl_ok _
theorem ok64_0 : ok64 0 := ⟨by decide, by decide⟩
theorem jcmp_0 {v : Int} : jcmp v 0 = 0 ↔ v = 0 := by
  unfold jcmp
  constructor
  · intro h
    split at h
    · cases h
    · split at h
      · assumption
      · cases h
  · intro h; subst h; simp
theorem bt_zero {v : Int} (hv : ok64 v) : v = 0 ↔ ∀ i, i < 64 → bt v i = false := by
  constructor
  · intro h i _; rw [h, bt_0]
  · intro h; exact bt_ext hv ok64_0 (fun i hi => by rw [h i hi, bt_0])
