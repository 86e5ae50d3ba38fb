/-! ===== the state that both sides hold, in numbers: S k j is the j-th of what k names ===== -/
abbrev SP : Type := Nat → Nat → Nat
abbrev s_nv (S : SP) : Nat := S 0 0
abbrev s_own (S : SP) : Nat → Nat := S 1
abbrev s_a (S : SP) : Nat → Nat := S 2
abbrev s_b (S : SP) : Nat → Nat := S 3
abbrev s_c (S : SP) : Nat → Nat := S 4
abbrev s_pre (S : SP) : Nat → Nat := S 5
abbrev s_plc (S : SP) : Nat → Nat := S 6
abbrev s_ynk (S : SP) : Nat → Nat := S 7
abbrev s_plat (S : SP) : Nat → Nat := S 8
abbrev s_nn (S : SP) : Nat → Nat := S 9
abbrev s_br (S : SP) : Nat → Nat := S 10
abbrev s_tgt (S : SP) : Nat → Nat := S 11
abbrev s_nrg (S : SP) : Nat → Nat := S 12
abbrev s_nkd (S : SP) : Nat → Nat := S 13
abbrev s_nft (S : SP) : Nat → Nat := S 14
abbrev s_npl (S : SP) : Nat → Nat := S 15
abbrev s_nfs (S : SP) : Nat → Nat := S 16
abbrev s_nr (S : SP) : Nat := S 17 0
abbrev s_has (S : SP) : Nat → Nat := S 18
abbrev s_rk (S : SP) : Nat → Nat := S 19
abbrev s_ra (S : SP) : Nat → Nat := S 20
abbrev s_rb (S : SP) : Nat → Nat := S 21
abbrev s_rc (S : SP) : Nat → Nat := S 22
abbrev s_rp (S : SP) : Nat → Nat := S 23
abbrev s_nd (S : SP) : Nat := S 24 0
abbrev s_dws (S : SP) : Nat → Nat := S 25
abbrev s_dtg (S : SP) : Nat → Nat := S 26
abbrev s_drg (S : SP) : Nat → Nat := S 27
abbrev s_dfs (S : SP) : Nat → Nat := S 28
abbrev s_na (S : SP) : Nat := S 29 0
abbrev s_apk (S : SP) : Nat → Nat := S 30
abbrev s_arg (S : SP) : Nat → Nat := S 31
abbrev s_rep (S : SP) : Nat → Nat := S 32
abbrev s_lock (S : SP) : Nat → Nat := S 33
abbrev s_plt (S : SP) : Nat := S 34 0
abbrev s_wsp (S : SP) : Nat := S 35 0
abbrev s_upd (S : SP) : Nat := S 36 0
abbrev s_dsk (S : SP) : Nat → Nat := S 37
def upS (S : SP) (k j x : Nat) : SP := fun k' j' => if k' = k ∧ j' = j then x else S k' j'
theorem upS_same (S : SP) (k j x : Nat) : upS S k j x k j = x := by simp [upS]
theorem upS_k (S : SP) {k k' : Nat} (j x : Nat) (h : k' ≠ k) : upS S k j x k' = S k' := by
  funext j'
  simp [upS, h]
theorem upS_j (S : SP) (k : Nat) {j j' : Nat} (x : Nat) (h : j' ≠ j) : upS S k j x k j' = S k j' := by simp [upS, h]
/-! sets as numbers -/
def setB : Nat → (Nat → Bool) → Nat
  | 0, _ => 0
  | n + 1, f => setB n f ||| (if f n then 2 ^ n else 0)
theorem setB_lt (n : Nat) (f : Nat → Bool) : setB n f < 2 ^ n := by
  induction n with
  | zero => exact Nat.zero_lt_one
  | succ n ih =>
    unfold setB
    apply Nat.or_lt_two_pow
    · exact Nat.lt_of_lt_of_le ih (Nat.pow_le_pow_right (by decide) (by omega))
    · by_cases h : f n = true
      · rw [if_pos h]
        exact Nat.pow_lt_pow_right (by decide) (by omega)
      · rw [if_neg h]
        exact Nat.pow_pos (by decide)
theorem setB_bit (n : Nat) (f : Nat → Bool) (i : Nat) : (setB n f).testBit i = (decide (i < n) && f i) := by
  induction n with
  | zero => simp [setB]
  | succ n ih =>
    unfold setB
    rw [Nat.testBit_or, ih]
    by_cases h : f n = true
    · rw [if_pos h, Nat.testBit_two_pow]
      by_cases hi : n = i
      · subst hi
        simp [h]
      · have e : decide (i < n + 1) = decide (i < n) := by
          apply decide_eq_decide.mpr
          omega
        simp [hi, e]
    · rw [if_neg h]
      by_cases hi : n = i
      · subst hi
        simp at h
        simp [h]
      · have e : decide (i < n + 1) = decide (i < n) := by
          apply decide_eq_decide.mpr
          omega
        simp [e]
theorem setB_congr {n : Nat} {f g : Nat → Bool} (h : ∀ i, i < n → f i = g i) : setB n f = setB n g := by
  apply Nat.eq_of_testBit_eq
  intro i
  rw [setB_bit, setB_bit]
  by_cases hi : i < n
  · rw [h i hi]
  · simp [hi]
theorem setB_small {n : Nat} (f : Nat → Bool) (h : n ≤ 30) : setB n f < 2 ^ 31 := Nat.lt_of_lt_of_le (setB_lt n f) (Nat.pow_le_pow_right (by decide) (by omega))
/-! loops over an index: any -/
def anyR (n : Nat) (f : Nat → Bool) : Bool := (List.range n).any f
theorem anyR_t {n : Nat} {f : Nat → Bool} : anyR n f = true ↔ ∃ i, i < n ∧ f i = true := by
  unfold anyR
  rw [List.any_eq_true]
  constructor
  · rintro ⟨i, h1, h2⟩
    exact ⟨i, List.mem_range.mp h1, h2⟩
  · rintro ⟨i, h1, h2⟩
    exact ⟨i, List.mem_range.mpr h1, h2⟩
theorem anyR_f {n : Nat} {f : Nat → Bool} : anyR n f = false ↔ ∀ i, i < n → f i = false := by
  constructor
  · intro h i hi
    cases hf : f i with
    | false => rfl
    | true =>
      have := anyR_t.mpr ⟨i, hi, hf⟩
      rw [h] at this
      cases this
  · intro h
    cases hf : anyR n f with
    | false => rfl
    | true =>
      obtain ⟨i, hi, h2⟩ := anyR_t.mp hf
      rw [h i hi] at h2
      cases h2
theorem anyR_s {n : Nat} {f : Nat → Bool} : anyR (n + 1) f = (anyR n f || f n) := by
  unfold anyR
  rw [List.range_succ, List.any_append]
  simp
theorem anyR_0 {f : Nat → Bool} : anyR 0 f = false := rfl
theorem anyR_congr {n : Nat} {f g : Nat → Bool} (h : ∀ i, i < n → f i = g i) : anyR n f = anyR n g := by
  cases hg : anyR n g with
  | false => exact anyR_f.mpr fun i hi => by rw [h i hi]; exact anyR_f.mp hg i hi
  | true =>
    obtain ⟨i, hi, h2⟩ := anyR_t.mp hg
    exact anyR_t.mpr ⟨i, hi, by rw [h i hi]; exact h2⟩
/-! versions -/
def rk4 (a b c pre : Nat) : Nat := ((a * 16 + b) * 16 + c) * 16 + (if pre = 0 then 10 else pre)
def s_rank (S : SP) (v : Nat) : Nat := rk4 (s_a S v) (s_b S v) (s_c S v) (s_pre S v)
def s_sum (S : SP) (v : Nat) : Nat := (31 * v + 7 * s_a S v + 5 * s_b S v + 3 * s_c S v + s_pre S v + 1) % 9973
def s_vs (S : SP) (p : Nat) : List Nat := (List.range (s_nv S)).filter fun v => s_own S v == p
def s_mem (S : SP) (p i : Nat) : Nat := match (s_vs S p)[i]? with
  | some v => v + 1
  | none => 0
def s_first (S : SP) (p : Nat) : Bool := anyR (s_nv S) fun w => s_own S w == p && s_plc S w == 0
/-- what is against a version: 0 (FINE) to 4 (BAD) -/
def s_flaw (S : SP) (v : Nat) : Nat :=
  if s_plc S v = 1 ∧ s_first S (s_own S v) = true then 1
  else if s_ynk S v = 1 ∧ s_lock S (s_own S v) ≠ v + 1 then 2
  else if (s_plat S v).testBit (s_plt S) = false then 3
  else if anyR (s_na S) (fun i => s_apk S i == s_own S v && s_has S (24 * s_arg S i + v) == 1) = true then 4
  else 0
/-- where a package leads to -/
def s_step (S : SP) (p : Nat) : Nat := if s_rep S p = 0 then p else s_rep S p - 1
def s_walk (S : SP) : Nat → Nat → Nat
  | 0, p => p
  | n + 1, p => s_walk S n (s_step S p)
def s_heir (S : SP) (p : Nat) : Nat := s_walk S 6 p
/-- whether a range of the kinds EXACT to WILD_PATCH has a version -/
def s_reach (k a b c p : Nat) (va vb vc vp : Nat) : Bool :=
  let r := rk4 va vb vc vp
  let x := rk4 a b c p
  (vp == 0 || (k != 3 && p != 0 && va == a && vb == b && vc == c)) &&
  (if k = 0 then r == x
   else if k = 1 then decide (x ≤ r)
   else if k = 2 then decide (r < x)
   else if k = 3 then true
   else if k = 4 then decide (x ≤ r) && decide (r < (if 0 < a then rk4 (a + 1) 0 0 0 else if 0 < b then rk4 0 (b + 1) 0 0 else rk4 0 0 (c + 1) 0))
   else if k = 5 then decide (x ≤ r) && decide (r < rk4 a (b + 1) 0 0)
   else if k = 6 then va == a
   else va == a && vb == b)
def s_inR (S : SP) (r v : Nat) : Bool :=
  if s_rk S r = 8 then s_has S (24 * s_ra S r + v) == 1 && s_has S (24 * s_rb S r + v) == 1
  else if s_rk S r = 9 then s_has S (24 * s_ra S r + v) == 1 || s_has S (24 * s_rb S r + v) == 1
  else s_reach (s_rk S r) (s_ra S r) (s_rb S r) (s_rc S r) (s_rp S r) (s_a S v) (s_b S v) (s_c S v) (s_pre S v)
/-! what holds of the numbers -/
def WFv (S : SP) : Prop := s_nv S ≤ 24 ∧ (∀ v, v < s_nv S → s_own S v < 6 ∧ s_a S v ≤ 9 ∧ s_b S v ≤ 9 ∧ s_c S v ≤ 9 ∧ s_pre S v ≤ 9 ∧ s_plc S v ≤ 1) ∧ (∀ v, v < 24 → s_ynk S v ≤ 1 ∧ s_plat S v ≤ 7 ∧ s_nn S v ≤ 5) ∧ (∀ v, s_nv S ≤ v → v < 24 → s_ynk S v = 0 ∧ s_plat S v = 7 ∧ s_nn S v = 0) ∧ (∀ i, i < 72 → s_br S i ≤ 7) ∧ (∀ i, i < 72 → 3 * s_nv S ≤ i → s_br S i = 0) ∧ (∀ p, p < 6 → (s_vs S p).length ≤ 4) ∧ (∀ v w, v < s_nv S → w < s_nv S → s_own S v = s_own S w → s_rank S v = s_rank S w → v = w)
def WFr (S : SP) : Prop := s_nr S ≤ 30 ∧ (∀ r, r < s_nr S → s_rk S r ≤ 9 ∧ (s_rk S r < 8 → s_ra S r ≤ 9 ∧ s_rb S r ≤ 9 ∧ s_rc S r ≤ 9 ∧ s_rp S r ≤ 9 ∧ (s_rk S r = 3 ∨ s_rk S r = 6 ∨ s_rk S r = 7 → s_rp S r = 0) ∧ (s_rk S r = 6 → s_rb S r = 0) ∧ (s_rk S r = 6 ∨ s_rk S r = 7 → s_rc S r = 0)) ∧ (8 ≤ s_rk S r → s_ra S r < r ∧ s_rb S r < r)) ∧ (∀ r v, r < s_nr S → v < s_nv S → s_has S (24 * r + v) = (if s_inR S r v then 1 else 0))
def WFn (S : SP) : Prop := ∀ v k, v < s_nv S → k < s_nn S v → s_tgt S (5 * v + k) < 6 ∧ s_nrg S (5 * v + k) < s_nr S ∧ s_nkd S (5 * v + k) ≤ 2 ∧ s_nft S (5 * v + k) ≤ 3 ∧ s_npl S (5 * v + k) ≤ 7 ∧ s_nfs S (5 * v + k) ≤ 7
def WFd (S : SP) : Prop := s_nd S ≤ 6 ∧ ∀ d, d < s_nd S → s_dws S d ≤ 2 ∧ s_dtg S d < 6 ∧ s_drg S d < s_nr S ∧ s_dfs S d ≤ 7
def WFw (S : SP) : Prop := s_na S ≤ 8 ∧ (∀ i, i < s_na S → s_apk S i < 6 ∧ s_arg S i < s_nr S) ∧ (∀ p, p < 6 → s_rep S p ≤ 6 ∧ s_rep S (s_heir S p) = 0) ∧ (∀ p, p < 6 → s_lock S p ≤ s_nv S ∧ (s_lock S p ≠ 0 → s_own S (s_lock S p - 1) = p)) ∧ s_plt S ≤ 2 ∧ s_wsp S ≤ 7 ∧ s_upd S ≤ 63 ∧ (∀ p, p < 6 → s_dsk S p ≤ s_nv S)
def WF (S : SP) : Prop := WFv S ∧ WFr S ∧ WFn S ∧ WFd S ∧ WFw S
/-! how the class's rows hold it -/
def RCv (S : SP) (σ : Mem) : Prop := σ 2 10 = nI (s_nv S) ∧ (∀ v, v < s_nv S → σ 4 v = nI (s_own S v)) ∧ (∀ v, v < s_nv S → σ 6 v = nI (s_rank S v)) ∧ (∀ v, v < s_nv S → σ 8 v = nI (s_sum S v)) ∧ (∀ v, v < 24 → σ 10 v = nI (s_plat S v)) ∧ (∀ i, i < 72 → σ 12 i = nI (s_br S i)) ∧ (∀ p, p < 6 → σ 16 p = nI (s_vs S p).length) ∧ (∀ p i, p < 6 → i < 4 → σ 14 (4 * p + i) = oi (s_mem S p i)) ∧ σ 2 7 = nI (setB 24 fun v => s_ynk S v == 1) ∧ σ 2 8 = nI (setB (s_nv S) fun v => s_plc S v == 1) ∧ σ 2 9 = nI (setB 6 (s_first S))
def s_from (S : SP) (r : Nat) : Nat := if s_rk S r = 2 ∨ s_rk S r = 3 then 0 else rk4 (s_ra S r) (s_rb S r) (s_rc S r) (s_rp S r)
def s_end (S : SP) (r : Nat) : Nat :=
  if s_rk S r = 0 then rk4 (s_ra S r) (s_rb S r) (s_rc S r) (s_rp S r) + 1
  else if s_rk S r = 2 then rk4 (s_ra S r) (s_rb S r) (s_rc S r) (s_rp S r)
  else if s_rk S r = 4 then (if 0 < s_ra S r then rk4 (s_ra S r + 1) 0 0 0 else if 0 < s_rb S r then rk4 0 (s_rb S r + 1) 0 0 else rk4 0 0 (s_rc S r + 1) 0)
  else if s_rk S r = 5 ∨ s_rk S r = 7 then rk4 (s_ra S r) (s_rb S r + 1) 0 0
  else if s_rk S r = 6 then rk4 (s_ra S r + 1) 0 0 0
  else 65536
def s_tri (S : SP) (r : Nat) : Nat := if s_rp S r = 0 then 0 else (s_ra S r * 16 + s_rb S r) * 16 + s_rc S r + 1
def RCr (S : SP) (σ : Mem) : Prop := σ 17 7 = nI (s_nr S) ∧ (∀ r, r < s_nr S → σ 31 r = nI (setB (s_nv S) fun v => s_has S (24 * r + v) == 1)) ∧ (∀ r, s_nr S ≤ r → r < 30 → σ 31 r = 0 ∧ σ 19 r = 3 ∧ σ 27 r = -1 ∧ σ 29 r = -1) ∧ (∀ r, r < s_nr S → s_rk S r < 8 → σ 19 r = 3 ∧ σ 27 r = -1 ∧ σ 29 r = -1 ∧ σ 21 r = nI (s_from S r) ∧ σ 23 r = nI (s_end S r) ∧ σ 25 r = oi (s_tri S r)) ∧ (∀ r, r < s_nr S → 8 ≤ s_rk S r → σ 19 r = nI (s_rk S r) ∧ σ 27 r = nI (s_ra S r) ∧ σ 29 r = nI (s_rb S r))
def RCn (S : SP) (σ : Mem) : Prop := (∀ v, v < 24 → σ 46 v = nI (s_nn S v)) ∧ ∀ v k, v < s_nv S → k < s_nn S v → σ 34 (5 * v + k) = nI (s_tgt S (5 * v + k)) ∧ σ 36 (5 * v + k) = nI (s_nrg S (5 * v + k)) ∧ σ 38 (5 * v + k) = nI (s_nkd S (5 * v + k)) ∧ σ 40 (5 * v + k) = oi (s_nft S (5 * v + k)) ∧ σ 42 (5 * v + k) = nI (s_npl S (5 * v + k)) ∧ σ 44 (5 * v + k) = nI (s_nfs S (5 * v + k))
def RCd (S : SP) (σ : Mem) : Prop := σ 47 4 = nI (s_nd S) ∧ ∀ d, d < s_nd S → σ 49 d = nI (s_dws S d) ∧ σ 51 d = nI (s_dtg S d) ∧ σ 53 d = nI (s_drg S d) ∧ σ 55 d = nI (s_dfs S d)
def RCw (S : SP) (σ : Mem) : Prop := σ 1 9 = nI (s_na S) ∧ (∀ i, i < s_na S → σ 59 i = nI (s_apk S i) ∧ σ 61 i = nI (s_arg S i)) ∧ (∀ p, p < 6 → σ 63 p = oi (s_rep S p) ∧ σ 65 p = nI (s_heir S p) ∧ σ 57 p = oi (s_lock S p)) ∧ σ 1 10 = nI (s_plt S) ∧ σ 66 1 = nI (s_wsp S) ∧ σ 66 2 = nI (s_upd S) ∧ (∀ p, p < 6 → σ 91 p = oi (s_dsk S p))
def RC (S : SP) (σ : Mem) : Prop := RCv S σ ∧ RCr S σ ∧ RCn S σ ∧ RCd S σ ∧ RCw S σ
/-! how the reference's rows hold it -/
def RMv (S : SP) (σ : Mem) : Prop := σ 94 1 = nI (s_nv S) ∧ (∀ v, v < s_nv S → σ 95 (9 * v) = nI (s_own S v) ∧ σ 95 (9 * v + 1) = nI (s_a S v) ∧ σ 95 (9 * v + 2) = nI (s_b S v) ∧ σ 95 (9 * v + 3) = nI (s_c S v) ∧ σ 95 (9 * v + 4) = nI (s_pre S v) ∧ σ 95 (9 * v + 5) = nI (s_plc S v) ∧ σ 95 (9 * v + 7) = nI (s_plat S v)) ∧ (∀ v, v < 24 → σ 95 (9 * v + 6) = nI (s_ynk S v) ∧ σ 95 (9 * v + 8) = nI (s_nn S v)) ∧ (∀ i, i < 72 → σ 96 i = nI (s_br S i))
def RMr (S : SP) (σ : Mem) : Prop := σ 94 2 = nI (s_nr S) ∧ (∀ r, r < s_nr S → σ 98 (5 * r) = nI (s_rk S r) ∧ σ 98 (5 * r + 1) = nI (s_ra S r) ∧ σ 98 (5 * r + 2) = nI (s_rb S r) ∧ σ 98 (5 * r + 3) = nI (s_rc S r) ∧ σ 98 (5 * r + 4) = nI (s_rp S r)) ∧ (∀ r v, r < s_nr S → v < s_nv S → σ 99 (24 * r + v) = nI (s_has S (24 * r + v)))
def RMn (S : SP) (σ : Mem) : Prop := ∀ v k, v < s_nv S → k < s_nn S v → σ 97 (6 * (5 * v + k)) = nI (s_tgt S (5 * v + k)) ∧ σ 97 (6 * (5 * v + k) + 1) = nI (s_nrg S (5 * v + k)) ∧ σ 97 (6 * (5 * v + k) + 2) = nI (s_nkd S (5 * v + k)) ∧ σ 97 (6 * (5 * v + k) + 3) = oi (s_nft S (5 * v + k)) ∧ σ 97 (6 * (5 * v + k) + 4) = nI (s_npl S (5 * v + k)) ∧ σ 97 (6 * (5 * v + k) + 5) = nI (s_nfs S (5 * v + k))
def RMd (S : SP) (σ : Mem) : Prop := σ 94 3 = nI (s_nd S) ∧ ∀ d, d < s_nd S → σ 100 (4 * d) = nI (s_dws S d) ∧ σ 100 (4 * d + 1) = nI (s_dtg S d) ∧ σ 100 (4 * d + 2) = nI (s_drg S d) ∧ σ 100 (4 * d + 3) = nI (s_dfs S d)
def RMw (S : SP) (σ : Mem) : Prop := σ 94 4 = nI (s_na S) ∧ (∀ i, i < s_na S → σ 101 (2 * i) = nI (s_apk S i) ∧ σ 101 (2 * i + 1) = nI (s_arg S i)) ∧ (∀ p, p < 6 → σ 102 p = oi (s_rep S p) ∧ σ 103 p = oi (s_lock S p) ∧ σ 104 p = oi (s_dsk S p)) ∧ σ 94 5 = nI (s_plt S) ∧ σ 94 6 = nI (s_wsp S) ∧ σ 94 7 = nI (s_upd S)
def RM (S : SP) (σ : Mem) : Prop := RMv S σ ∧ RMr S σ ∧ RMn S σ ∧ RMd S σ ∧ RMw S σ
/-- the sums on the disk are the same where something is there -/
def RB (σ : Mem) : Prop := ∀ p, p < 6 → ∃ x, x ≤ 24 ∧ σ 112 p = oi x
def RS (S : SP) (σ : Mem) : Prop := (∀ p, p < 6 → s_dsk S p ≠ 0 → σ 93 p = σ 105 p) ∧ RB σ
/-! frames: the rows that a side's own state stands in -/
def cData : List Nat := [1, 2, 4, 6, 8, 10, 12, 14, 16, 17, 19, 21, 23, 25, 27, 29, 31, 34, 36, 38, 40, 42, 44, 46, 47, 49, 51, 53, 55, 57, 59, 61, 63, 65, 66, 91, 93]
theorem RC.congr {S : SP} {σ σ' : Mem} (h : ∀ k ∈ cData, σ' k = σ k) (hR : RC S σ) : RC S σ' := by
  have g : ∀ k, k ∈ cData → σ' k = σ k := h
  unfold RC RCv RCr RCn RCd RCw at *
  simp only [g 1 (by decide), g 2 (by decide), g 4 (by decide), g 6 (by decide), g 8 (by decide), g 10 (by decide), g 12 (by decide), g 14 (by decide), g 16 (by decide), g 17 (by decide), g 19 (by decide), g 21 (by decide), g 23 (by decide), g 25 (by decide), g 27 (by decide), g 29 (by decide), g 31 (by decide), g 34 (by decide), g 36 (by decide), g 38 (by decide), g 40 (by decide), g 42 (by decide), g 44 (by decide), g 46 (by decide), g 47 (by decide), g 49 (by decide), g 51 (by decide), g 53 (by decide), g 55 (by decide), g 57 (by decide), g 59 (by decide), g 61 (by decide), g 63 (by decide), g 65 (by decide), g 66 (by decide), g 91 (by decide)]
  exact hR
def mData : List Nat := [95, 96, 97, 98, 99, 100, 101, 102, 103, 104, 105]
def mInts : List Nat := [1, 2, 3, 4, 5, 6, 7]
theorem RM.congr {S : SP} {σ σ' : Mem} (h : ∀ k ∈ mData, σ' k = σ k) (h2 : ∀ j ∈ mInts, σ' 94 j = σ 94 j) (hR : RM S σ) : RM S σ' := by
  have g : ∀ k, k ∈ mData → σ' k = σ k := h
  have g2 : ∀ k, k ∈ mInts → σ' 94 k = σ 94 k := h2
  unfold RM RMv RMr RMn RMd RMw at *
  simp only [g 95 (by decide), g 96 (by decide), g 97 (by decide), g 98 (by decide), g 99 (by decide), g 100 (by decide), g 101 (by decide), g 102 (by decide), g 103 (by decide), g 104 (by decide), g2 1 (by decide), g2 2 (by decide), g2 3 (by decide), g2 4 (by decide), g2 5 (by decide), g2 6 (by decide), g2 7 (by decide)]
  exact hR
theorem RB.congr {σ σ' : Mem} (h3 : σ' 112 = σ 112) (hR : RB σ) : RB σ' := fun p hp => by
  rw [h3]
  exact hR p hp
theorem RS.congr {S : SP} {σ σ' : Mem} (h1 : σ' 93 = σ 93) (h2 : σ' 105 = σ 105) (h3 : σ' 112 = σ 112) (hR : RS S σ) : RS S σ' := ⟨fun p hp hd => by
  rw [h1, h2]
  exact hR.1 p hp hd, hR.2.congr h3⟩
