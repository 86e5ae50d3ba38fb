/-! ===== numbers and bits ===== -/
def b2i (b : Bool) : Int32 := if b then 1 else 0
/-- none (0) or a number, as the program has it: -1, or the number -/
def oi (x : Nat) : Int32 := if x = 0 then -1 else nI (x - 1)
theorem oi_0 : oi 0 = -1 := rfl
theorem oi_s (x : Nat) : oi (x + 1) = nI x := rfl
theorem nI_mul (a b : Nat) : nI a * nI b = nI (a * b) := pk_mul a b
theorem nI_toB (n : Nat) : (nI n).toBitVec = BitVec.ofNat 32 n := rfl
theorem nI_or (a b : Nat) : nI a ||| nI b = nI (a ||| b) := by
  apply Int32.toBitVec_inj.mp
  rw [Int32.toBitVec_or, nI_toB, nI_toB, nI_toB]
  apply BitVec.eq_of_toNat_eq
  simp [Nat.or_mod_two_pow]
theorem nI_and (a b : Nat) : nI a &&& nI b = nI (a &&& b) := by
  apply Int32.toBitVec_inj.mp
  rw [Int32.toBitVec_and, nI_toB, nI_toB, nI_toB]
  apply BitVec.eq_of_toNat_eq
  simp [Nat.and_mod_two_pow]
theorem nI_xor (a b : Nat) : nI a ^^^ nI b = nI (a ^^^ b) := by
  apply Int32.toBitVec_inj.mp
  rw [Int32.toBitVec_xor, nI_toB, nI_toB, nI_toB]
  apply BitVec.eq_of_toNat_eq
  simp [Nat.xor_mod_two_pow]
theorem smod_ok : ∀ j, j < 31 → (((nI j) &&& 31).toBitVec.smod 32).toNat = j := by decide
theorem nI_shr {n j : Nat} (hn : n < 2 ^ 31) (hj : j < 31) : nI n >>> (nI j &&& 31) = nI (n / 2 ^ j) := pk_shrN hn _ j (smod_ok j hj)
theorem nI_shl {n j : Nat} (hj : j < 31) (h : n * 2 ^ j < 2 ^ 32) : nI n <<< (nI j &&& 31) = nI (n * 2 ^ j) := pk_shlN _ j (smod_ok j hj) h
theorem one_shl {j : Nat} (hj : j < 31) : (1 : Int32) <<< (nI j &&& 31) = nI (2 ^ j) := by
  have h : (1 : Nat) * 2 ^ j < 2 ^ 32 := by
    rw [Nat.one_mul]
    exact Nat.pow_lt_pow_right (by decide) (by omega)
  have := nI_shl (n := 1) hj h
  rw [Nat.one_mul] at this
  exact this
theorem bit_iff {n j : Nat} (hn : n < 2 ^ 31) (hj : j < 31) : ((nI n >>> (nI j &&& 31)) &&& 1 = 1) ↔ n.testBit j = true := by
  rw [nI_shr hn hj, Nat.testBit_eq_decide_div_mod_eq]
  have e : nI (n / 2 ^ j) &&& 1 = nI (n / 2 ^ j % 2) := by
    have h2 : n / 2 ^ j < 2 ^ 32 := Nat.lt_of_le_of_lt (Nat.div_le_self _ _) (by omega)
    exact pk_andN h2 (m := 1) 1 (by decide)
  rw [e]
  have h3 : n / 2 ^ j % 2 < 2 := Nat.mod_lt _ (by decide)
  constructor
  · intro h
    have : n / 2 ^ j % 2 = 1 := (nI_eq (by omega) (by omega)).mp h
    simp [this]
  · intro h
    have : n / 2 ^ j % 2 = 1 := by simpa using h
    rw [this]
    rfl
theorem bit0_iff {n j : Nat} (hn : n < 2 ^ 31) (hj : j < 31) : ((nI n >>> (nI j &&& 31)) &&& 1 = 0) ↔ n.testBit j = false := by
  rw [nI_shr hn hj, Nat.testBit_eq_decide_div_mod_eq]
  have e : nI (n / 2 ^ j) &&& 1 = nI (n / 2 ^ j % 2) := by
    have h2 : n / 2 ^ j < 2 ^ 32 := Nat.lt_of_le_of_lt (Nat.div_le_self _ _) (by omega)
    exact pk_andN h2 (m := 1) 1 (by decide)
  rw [e]
  have h3 : n / 2 ^ j % 2 < 2 := Nat.mod_lt _ (by decide)
  constructor
  · intro h
    have : n / 2 ^ j % 2 = 0 := (nI_eq (by omega) (by omega)).mp h
    simp [this]
  · intro h
    have h4 : ¬ n / 2 ^ j % 2 = 1 := by simpa using h
    have : n / 2 ^ j % 2 = 0 := by omega
    rw [this]
    rfl
theorem oi_neg {x : Nat} (h : x < 2 ^ 31) : oi x < 0 ↔ x = 0 := by
  unfold oi
  by_cases h0 : x = 0
  · simp [h0]
  · rw [if_neg h0]
    constructor
    · intro h1
      exact absurd h1 (nI_pos (by omega))
    · intro h1
      exact absurd h1 h0
theorem oi_inj {x y : Nat} (hx : x < 2 ^ 31) (hy : y < 2 ^ 31) : oi x = oi y ↔ x = y := by
  unfold oi
  by_cases h0 : x = 0
  · by_cases h1 : y = 0
    · simp [h0, h1]
    · rw [if_pos h0, if_neg h1]
      constructor
      · intro h
        have := nI_pos (n := y - 1) (by omega)
        rw [← h] at this
        exact absurd (by decide) this
      · intro h
        omega
  · by_cases h1 : y = 0
    · rw [if_neg h0, if_pos h1]
      constructor
      · intro h
        have := nI_pos (n := x - 1) (by omega)
        rw [h] at this
        exact absurd (by decide) this
      · intro h
        omega
    · rw [if_neg h0, if_neg h1, nI_eq (by omega) (by omega)]
      omega
theorem oi_m1 {x : Nat} (h : x < 2 ^ 31) : oi x = -1 ↔ x = 0 := by
  rw [← oi_0, oi_inj h (by decide)]
theorem nI_nm1 {x : Nat} (h : x < 2 ^ 31) : ¬ nI x = -1 := by
  intro e
  have := nI_pos h
  rw [e] at this
  exact this (by decide)
theorem nI_oi {x y : Nat} (hx : x < 2 ^ 30) (hy : y < 2 ^ 31) : nI x = oi y ↔ y = x + 1 := by
  rw [← oi_s, oi_inj (by omega) hy]
  omega
theorem oi_nI {x y : Nat} (hx : x < 2 ^ 30) (hy : y < 2 ^ 31) : oi y = nI x ↔ y = x + 1 := by
  rw [eq_comm, nI_oi hx hy]
theorem ald_nI {σ : Mem} {a n k : Nat} (h : k < n) (hn : n < 2 ^ 31) : ald σ a n (nI k) = some (σ a k) := by
  unfold ald
  rw [if_neg (nI_in h hn), nI_clamp (by omega)]
theorem ast_nI {σ : Mem} {a n k : Nat} {x : Int32} (h : k < n) (hn : n < 2 ^ 31) : ast σ a n (nI k) x = some (up σ a k x) := by
  unfold ast
  rw [if_neg (nI_in h hn), nI_clamp (by omega)]
theorem up_same (σ : Mem) (a k : Nat) (x : Int32) : up σ a k x a k = x := by simp [up, setA, upd]
theorem up_off (σ : Mem) {a k a' k' : Nat} (x : Int32) (h : a' ≠ a ∨ k' ≠ k) : up σ a k x a' k' = σ a' k' := by
  unfold up setA upd
  by_cases h1 : a' = a
  · subst h1
    have h2 : k' ≠ k := by
      rcases h with h | h
      · exact absurd rfl h
      · exact h
    simp [h2]
  · simp [h1]
theorem up_pl (σ : Mem) {a k a' : Nat} (x : Int32) (h : a' ≠ a) : up σ a k x a' = σ a' := by simp [up, setA, h]
theorem zchk_0 : zchk 0 = some 0 := by decide
theorem zchk_1 : zchk 1 = some 1 := by decide
theorem zchk_b (b : Bool) : zchk (b2i b) = some (b2i b) := by cases b <;> decide
theorem b2i_0 (b : Bool) : b2i b = 0 ↔ b = false := by cases b <;> decide
theorem b2i_1 (b : Bool) : b2i b = 1 ↔ b = true := by cases b <;> decide
/-! the leaves -/
theorem x_get {σ : Mem} {a n k : Nat} (h : k < n) (hn : n < 2 ^ 31) : m_X7_get a n (nI k) σ = some (σ a k, σ) := by
  unfold m_X7_get
  rw [if_neg (nI_pos (by omega)), if_neg (show ¬ Int32.ofNat n ≤ nI k from nI_ge h hn), ald_nI h hn]
  rfl
theorem x_getM {σ : Mem} {a n : Nat} : m_X7_get a n (-1) σ = some (-1, σ) := by
  unfold m_X7_get
  rw [if_pos (by decide)]
theorem x_getO {σ : Mem} {a n k : Nat} (h : n ≤ k) (hk : k < 2 ^ 31) : m_X7_get a n (nI k) σ = some (-1, σ) := by
  unfold m_X7_get
  rw [if_neg (nI_pos hk), if_pos (show Int32.ofNat n ≤ nI k from nI_le h hk)]
theorem x_set {σ : Mem} {a n k : Nat} {x : Int32} (h : k < n) (hn : n < 2 ^ 31) : m_X7_set a n (nI k) x σ = some (0, up σ a k x) := by
  unfold m_X7_set
  rw [if_neg (nI_pos (by omega)), if_neg (show ¬ Int32.ofNat n ≤ nI k from nI_ge h hn), ast_nI h hn]
  rfl
theorem x_exchange {σ : Mem} {a n k : Nat} {x : Int32} (h : k < n) (hn : n < 2 ^ 31) : m_X7_exchange a n (nI k) x σ = some (σ a k, up σ a k x) := by
  unfold m_X7_exchange
  rw [x_get h hn, obind_some]
  simp only [obind_some]
  rw [x_set h hn]
  rfl
theorem x_merge {σ : Mem} {a n k s t : Nat} (h : k < n) (hn : n < 2 ^ 31) (hs : σ a k = nI s) (hs2 : s < 2 ^ 31) (ht : t < 2 ^ 31) : m_X7_merge a n (nI k) (nI t) σ = some (b2i (decide (s ||| t ≠ s)), up σ a k (nI (s ||| t))) := by
  unfold m_X7_merge
  have h1 : nI k < Int32.ofNat n := nI_lt h hn
  rw [if_neg (nI_pos (by omega)), if_pos h1, ald_nI h hn, obind_some, hs, nI_or, ast_nI h hn, obind_some, ald_nI h hn, obind_some, up_same]
  have hb : s ||| t < 2 ^ 31 := Nat.or_lt_two_pow hs2 ht
  by_cases e : s ||| t = s
  · simp [e, b2i]
  · rw [if_neg (fun h => e ((nI_eq hb hs2).mp h))]
    simp [e, b2i]
theorem x_isIn {σ : Mem} {n j : Nat} (hn : n < 2 ^ 31) (hj : j < 31) : m_X11_isIn (nI n) (nI j) σ = some (b2i (n.testBit j), σ) := by
  unfold m_X11_isIn
  rw [if_neg (nI_pos (by omega))]
  by_cases h : n.testBit j = true
  · rw [if_pos ((bit_iff hn hj).mpr h), h]
    rfl
  · rw [if_neg (fun e => h ((bit_iff hn hj).mp e))]
    simp at h
    rw [h]
    rfl
theorem x_isInM {σ : Mem} {x : Int32} : m_X11_isIn x (-1) σ = some (0, σ) := by
  unfold m_X11_isIn
  rw [if_pos (by decide)]
/-- the number an int has, if it is one -/
def okN (x : Int32) (n : Nat) : Prop := x < 0 ∨ nI n ≤ x
theorem x_upTo {σ : Mem} {n k : Nat} (hn : n < 2 ^ 31) (hk : k < 2 ^ 31) : m_X11_isUpTo (nI n) (nI k) σ = some (b2i (decide (k ≤ n)), σ) := by
  unfold m_X11_isUpTo
  rw [if_neg (nI_pos hk)]
  by_cases h : k ≤ n
  · rw [if_neg (fun e => by have := (nI_ltI hn hk).mp e; omega)]
    simp [h, b2i]
  · rw [if_pos ((nI_ltI hn hk).mpr (by omega))]
    simp [h, b2i]
theorem x_upToM {σ : Mem} {n : Int32} {x : Int32} (h : x < 0) : m_X11_isUpTo n x σ = some (0, σ) := by
  unfold m_X11_isUpTo
  rw [if_pos h]
