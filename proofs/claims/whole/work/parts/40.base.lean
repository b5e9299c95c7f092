/-! ===== Int32 by its bits: bt x i ===== -/
def bt (x : Int32) (i : Nat) : Bool := x.toBitVec.getLsbD i
theorem b_ext {x y : Int32} (h : ∀ i, i < 32 → bt x i = bt y i) : x = y := Int32.toBitVec_inj.mp (BitVec.eq_of_getLsbD_eq (fun i hi => h i hi))
theorem b_or (x y : Int32) (i : Nat) : bt (x ||| y) i = (bt x i || bt y i) := by unfold bt; rw [Int32.toBitVec_or, BitVec.getLsbD_or]
theorem b_and (x y : Int32) (i : Nat) : bt (x &&& y) i = (bt x i && bt y i) := by unfold bt; rw [Int32.toBitVec_and, BitVec.getLsbD_and]
theorem b_xor (x y : Int32) (i : Nat) : bt (x ^^^ y) i = (bt x i ^^ bt y i) := by unfold bt; rw [Int32.toBitVec_xor, BitVec.getLsbD_xor]
theorem b_big {x : Int32} {i : Nat} (h : 32 ≤ i) : bt x i = false := BitVec.getLsbD_of_ge _ _ h
theorem b_255 (i : Nat) : bt 255 i = decide (i < 8) := by
  rcases Nat.lt_or_ge i 32 with h | h
  · exact (by decide +kernel : ∀ i, i < 32 → bt 255 i = decide (i < 8)) i h
  · rw [b_big h, decide_eq_false (by omega)]
theorem b_65535 (i : Nat) : bt 65535 i = decide (i < 16) := by
  rcases Nat.lt_or_ge i 32 with h | h
  · exact (by decide +kernel : ∀ i, i < 32 → bt 65535 i = decide (i < 16)) i h
  · rw [b_big h, decide_eq_false (by omega)]
theorem b_m1 : ∀ i, i < 32 → bt (-1) i = true := by decide +kernel
theorem b_0 (i : Nat) : bt 0 i = false := BitVec.getLsbD_zero
theorem s_l : ∀ n, n < 32 → ((nI n &&& 31).toBitVec.smod 32).toNat = n := by decide +kernel
theorem s_u : ∀ n, n < 32 → (((nI n).toUInt32 &&& Int32.toUInt32 31).toBitVec % 32).toNat = n := by decide +kernel
theorem b_shl (n : Nat) (hn : n < 32) (x : Int32) {i : Nat} (hi : i < 32) : bt (x <<< (nI n &&& 31)) i = (decide (n ≤ i) && bt x (i - n)) := by
  unfold bt
  rw [Int32.toBitVec_shiftLeft]
  show (x.toBitVec <<< ((nI n &&& 31).toBitVec.smod 32).toNat).getLsbD i = _
  rw [s_l n hn, BitVec.getLsbD_shiftLeft]
  rcases Nat.lt_or_ge i n with h | h
  · simp [h, Nat.not_le.mpr h]
  · simp [hi, h, Nat.not_lt.mpr h]
theorem b_ushr (n : Nat) (hn : n < 32) (x : Int32) (i : Nat) : bt ((x.toUInt32 >>> ((nI n).toUInt32 &&& Int32.toUInt32 31)).toInt32) i = bt x (n + i) := by
  show (x.toUInt32 >>> ((nI n).toUInt32 &&& Int32.toUInt32 31)).toBitVec.getLsbD i = x.toUInt32.toBitVec.getLsbD (n + i)
  rw [UInt32.toBitVec_shiftRight]
  show (x.toUInt32.toBitVec >>> (((nI n).toUInt32 &&& Int32.toUInt32 31).toBitVec % 32).toNat).getLsbD i = _
  rw [s_u n hn, BitVec.getLsbD_ushiftRight]
theorem b_sshr (n : Nat) (hn : n < 32) (x : Int32) {i : Nat} (hi : i < 32) : bt (x >>> (nI n &&& 31)) i = if n + i < 32 then bt x (n + i) else bt x 31 := by
  unfold bt
  rw [Int32.toBitVec_shiftRight]
  show (x.toBitVec.sshiftRight ((nI n &&& 31).toBitVec.smod 32).toNat).getLsbD i = _
  rw [s_l n hn, BitVec.getLsbD_sshiftRight, BitVec.msb_eq_getLsbD_last]
  simp [hi]
theorem b_shl8 (x : Int32) {i : Nat} (hi : i < 32) : bt (x <<< ((8 : Int32) &&& 31)) i = (decide (8 ≤ i) && bt x (i - 8)) := b_shl 8 (by omega) x hi
theorem b_shl16 (x : Int32) {i : Nat} (hi : i < 32) : bt (x <<< ((16 : Int32) &&& 31)) i = (decide (16 ≤ i) && bt x (i - 16)) := b_shl 16 (by omega) x hi
theorem b_shl24 (x : Int32) {i : Nat} (hi : i < 32) : bt (x <<< ((24 : Int32) &&& 31)) i = (decide (24 ≤ i) && bt x (i - 24)) := b_shl 24 (by omega) x hi
theorem b_sshr8 (x : Int32) {i : Nat} (hi : i < 32) : bt (x >>> ((8 : Int32) &&& 31)) i = if 8 + i < 32 then bt x (8 + i) else bt x 31 := b_sshr 8 (by omega) x hi
/-! ===== how many places have a property ===== -/
def fb_ct (p : Nat → Bool) : Nat → Nat
  | 0 => 0
  | n + 1 => fb_ct p n + (if p n then 1 else 0)
theorem fb_ct_succ (p : Nat → Bool) (n : Nat) : fb_ct p (n + 1) = fb_ct p n + (if p n then 1 else 0) := rfl
theorem fb_ct_le (p : Nat → Bool) : ∀ n, fb_ct p n ≤ n
  | 0 => Nat.le_refl _
  | n + 1 => by
    have h := fb_ct_le p n
    rw [fb_ct_succ]
    split <;> omega
theorem fb_ct_step (p : Nat → Bool) (m : Nat) : ∀ n, fb_ct p m ≤ fb_ct p (m + n)
  | 0 => Nat.le_refl _
  | n + 1 => by
    have h := fb_ct_step p m n
    show fb_ct p m ≤ fb_ct p (m + n + 1)
    rw [fb_ct_succ]
    omega
theorem fb_ct_mono (p : Nat → Bool) {m n : Nat} (h : m ≤ n) : fb_ct p m ≤ fb_ct p n := by
  have := fb_ct_step p m (n - m)
  rwa [Nat.add_sub_cancel' h] at this
theorem fb_ct_cong {p q : Nat → Bool} : ∀ {n : Nat}, (∀ k, k < n → p k = q k) → fb_ct p n = fb_ct q n
  | 0, _ => rfl
  | n + 1, h => by
    rw [fb_ct_succ, fb_ct_succ, fb_ct_cong (fun k hk => h k (by omega)), h n (by omega)]
/-- one place changed -/
theorem fb_ct_out (p : Nat → Bool) (b : Bool) {i n : Nat} (h : n ≤ i) : fb_ct (fun k => if k = i then b else p k) n = fb_ct p n :=
  fb_ct_cong fun k hk => if_neg (by omega)
theorem fb_ct_upd (p : Nat → Bool) (b : Bool) {i : Nat} : ∀ {n : Nat}, i < n → fb_ct (fun k => if k = i then b else p k) n + (if p i then 1 else 0) = fb_ct p n + (if b then 1 else 0)
  | 0, h => absurd h (Nat.not_lt_zero i)
  | n + 1, h => by
    rw [fb_ct_succ, fb_ct_succ]
    rcases Nat.lt_or_ge i n with q | q
    · have := fb_ct_upd p b q
      have e : (if n = i then b else p n) = p n := if_neg (by omega)
      rw [e]
      omega
    · have e : i = n := by omega
      subst e
      rw [fb_ct_out p b (Nat.le_refl _)]
      simp only [if_true]
      omega
theorem fb_ct_sub {p q : Nat → Bool} : ∀ {n : Nat}, (∀ k, k < n → p k = true → q k = true) → fb_ct p n ≤ fb_ct q n
  | 0, _ => Nat.le_refl _
  | n + 1, h => by
    have h1 := fb_ct_sub (n := n) (p := p) (q := q) (fun k hk => h k (by omega))
    have h2 := h n (by omega)
    rw [fb_ct_succ, fb_ct_succ]
    cases hp : p n <;> cases hq : q n <;> simp_all <;> omega
theorem fb_ct_or {p q : Nat → Bool} : ∀ {n : Nat}, (∀ k, k < n → ¬ (p k = true ∧ q k = true)) → fb_ct (fun k => p k || q k) n = fb_ct p n + fb_ct q n
  | 0, _ => rfl
  | n + 1, h => by
    have h1 := fb_ct_or (n := n) (p := p) (q := q) (fun k hk => h k (by omega))
    have h2 := h n (by omega)
    rw [fb_ct_succ, fb_ct_succ, fb_ct_succ, h1]
    cases hp : p n <;> cases hq : q n <;> simp_all <;> omega
theorem fb_ct_not (p : Nat → Bool) : ∀ n, fb_ct p n + fb_ct (fun k => !p k) n = n
  | 0 => rfl
  | n + 1 => by
    have h := fb_ct_not p n
    rw [fb_ct_succ, fb_ct_succ]
    cases p n <;> simp <;> omega
theorem fb_ct_split (p : Nat → Bool) (m : Nat) : ∀ n, fb_ct p (m + n) = fb_ct p m + fb_ct (fun k => p (m + k)) n
  | 0 => rfl
  | n + 1 => by
    have h := fb_ct_split p m n
    show fb_ct p (m + n + 1) = _
    rw [fb_ct_succ, fb_ct_succ, h, Nat.add_assoc]
theorem fb_ct_zero {p : Nat → Bool} : ∀ {n : Nat}, fb_ct p n = 0 ↔ ∀ k, k < n → p k = false
  | 0 => ⟨fun _ k hk => absurd hk (Nat.not_lt_zero k), fun _ => rfl⟩
  | n + 1 => by
    have h := fb_ct_zero (p := p) (n := n)
    rw [fb_ct_succ]
    constructor
    · intro e k hk
      have e1 : fb_ct p n = 0 := by omega
      rcases Nat.lt_or_ge k n with q | q
      · exact h.mp e1 k q
      · have ek : k = n := by omega
        subst ek
        cases hp : p k
        · rfl
        · simp [hp] at e
    · intro a
      rw [h.mpr (fun k hk => a k (by omega)), a n (by omega)]
      rfl
theorem fb_ct_pos {p : Nat → Bool} {n : Nat} : 0 < fb_ct p n ↔ ∃ k, k < n ∧ p k = true := by
  constructor
  · intro h
    refine Classical.byContradiction fun hx => ?_
    have := fb_ct_zero.mpr (fun k hk => by
      cases hp : p k
      · rfl
      · exact absurd ⟨k, hk, hp⟩ hx : ∀ k, k < n → p k = false)
    omega
  · rintro ⟨k, hk, hp⟩
    rcases Nat.eq_zero_or_pos (fb_ct p n) with e | e
    · have := fb_ct_zero.mp e k hk
      rw [this] at hp
      cases hp
    · exact e
theorem fb_ct_all {p : Nat → Bool} {n : Nat} : fb_ct p n = n ↔ ∀ k, k < n → p k = true := by
  have h := fb_ct_not p n
  constructor
  · intro e k hk
    have z : fb_ct (fun k => !p k) n = 0 := by omega
    have := fb_ct_zero.mp z k hk
    cases hp : p k
    · simp [hp] at this
    · rfl
  · intro a
    have z : fb_ct (fun k => !p k) n = 0 := fb_ct_zero.mpr (fun k hk => by simp [a k hk])
    omega
/-- the k-th place with the property -/
theorem fb_ct_kth {p : Nat → Bool} {k : Nat} : ∀ {n : Nat}, k < fb_ct p n → ∃ i, i < n ∧ p i = true ∧ fb_ct p i = k
  | 0, h => absurd h (Nat.not_lt_zero k)
  | n + 1, h => by
    rcases Nat.lt_or_ge k (fb_ct p n) with q | q
    · obtain ⟨i, h1, h2⟩ := fb_ct_kth q
      exact ⟨i, by omega, h2⟩
    · rw [fb_ct_succ] at h
      cases hp : p n
      · simp [hp] at h; omega
      · simp [hp] at h
        exact ⟨n, by omega, hp, by omega⟩
theorem fb_ct_kth_one {p : Nat → Bool} {i j : Nat} (hi : p i = true) (hj : p j = true) (e : fb_ct p i = fb_ct p j) : i = j := by
  have key : ∀ a b : Nat, a < b → p a = true → fb_ct p a < fb_ct p b := by
    intro a b hab ha
    have h := fb_ct_mono p (show a + 1 ≤ b from hab)
    rw [fb_ct_succ, ha] at h
    simp at h
    omega
  rcases Nat.lt_trichotomy i j with q | q | q
  · have := key i j q hi; omega
  · exact q
  · have := key j i q hj; omega
/-! ===== order of ints, in all its forms, and through longs ===== -/
theorem fa_lt (a b : Int32) : a < b ↔ a.toInt < b.toInt := Int32.lt_iff_toInt_lt
theorem fa_le (a b : Int32) : a ≤ b ↔ a.toInt ≤ b.toInt := Int32.le_iff_toInt_le
theorem fa_eq (a b : Int32) : a = b ↔ a.toInt = b.toInt := Int32.toInt_inj.symm
theorem fa_lt64 (a b : Int64) : a < b ↔ a.toInt < b.toInt := Int64.lt_iff_toInt_lt
theorem fa_le64 (a b : Int64) : a ≤ b ↔ a.toInt ≤ b.toInt := Int64.le_iff_toInt_le
theorem fa_eq64 (a b : Int64) : a = b ↔ a.toInt = b.toInt := Int64.toInt_inj.symm
/-- a comparison of two ints taken as longs -/
theorem fa_wide_lt (a b : Int32) : a.toInt64 < b.toInt64 ↔ a < b := by rw [fa_lt64, fa_lt, Int32.toInt_toInt64, Int32.toInt_toInt64]
theorem fa_wide_le (a b : Int32) : a.toInt64 ≤ b.toInt64 ↔ a ≤ b := by rw [fa_le64, fa_le, Int32.toInt_toInt64, Int32.toInt_toInt64]
theorem fa_wide_eq (a b : Int32) : a.toInt64 = b.toInt64 ↔ a = b := by rw [fa_eq64, fa_eq, Int32.toInt_toInt64, Int32.toInt_toInt64]
/-- one strict comparison gives all the others -/
theorem fa_of_lt {a b : Int32} (h : a < b) : a ≤ b ∧ ¬ b ≤ a ∧ ¬ b < a ∧ a ≠ b ∧ b ≠ a := by
  rw [fa_lt] at h
  refine ⟨?_, ?_, ?_, ?_, ?_⟩
  · rw [fa_le]; omega
  · rw [fa_le]; omega
  · rw [fa_lt]; omega
  · intro e; rw [fa_eq] at e; omega
  · intro e; rw [fa_eq] at e; omega
theorem fa_of_nlt {a b : Int32} (h : ¬ a < b) : b ≤ a := by
  rw [fa_lt] at h
  rw [fa_le]
  omega
theorem fa_of_nle {a b : Int32} (h : ¬ a ≤ b) : b < a := by
  rw [fa_le] at h
  rw [fa_lt]
  omega
theorem fa_le_ne {a b : Int32} (h : a ≤ b) (h2 : a ≠ b) : a < b := by
  rw [fa_le] at h
  rw [fa_lt]
  have h3 : a.toInt ≠ b.toInt := fun e => h2 ((fa_eq a b).mpr e)
  omega
theorem fa_three (a b : Int32) : a < b ∨ a = b ∨ b < a := by
  rw [fa_lt, fa_lt, fa_eq]
  omega
theorem fa_trans {a b c : Int32} (h : a < b) (h2 : b ≤ c) : a < c := by
  rw [fa_lt] at *
  rw [fa_le] at h2
  omega
/-! ===== own: numbers, cells ===== -/
theorem z_in {j n : Nat} (h : j < n) (hn : n < 2147483648) : nz_in (nI j) n = true := by
  unfold nz_in
  rw [nI_clamp (by omega)]
  exact decide_eq_true ⟨nI_pos (by omega), h⟩
theorem z_N {j : Nat} (h : j < 2147483648) : (nI j).toNatClampNeg = j := nI_clamp h
theorem z_bnd {α β : Type} (a : α) (x : nz_S) (k : α → nz_S → Option β) : nz_bnd (some (a, x)) k = k a x := by
  cases h : k a x <;> exact h
theorem z_chk {α : Type} (k : Option α) : nz_chk true k = k := by
  cases h : k <;> exact h ▸ rfl
theorem z_put1 (x : nz_S) (c i : Nat) (v : Int32) (c' : Nat) : (nz_put x c i v).1 c' = if c' = c then upd (x.1 c) i v else x.1 c' := by
  by_cases h : c' = c <;> simp [nz_put, nz_set, va_up, h]
theorem z_put2 (x : nz_S) (c i : Nat) (v : Int32) : (nz_put x c i v).2 = x.2 := rfl
theorem z_set1 (x : nz_S) (c : Nat) (f : Nat → Int32) (c' : Nat) : (nz_set x c f).1 c' = if c' = c then f else x.1 c' := by
  by_cases h : c' = c <;> simp [nz_set, va_up, h]
theorem z_set2 (x : nz_S) (c : Nat) (f : Nat → Int32) : (nz_set x c f).2 = x.2 := rfl
theorem z_upd (f : Nat → Int32) (i : Nat) (v : Int32) (j : Nat) : upd f i v j = if j = i then v else f j := by
  by_cases h : j = i <;> simp [upd, h]
theorem z_le {a b : Nat} (ha : a < 2147483648) (hb : b < 2147483648) : nI a ≤ nI b ↔ a ≤ b := nI_leI ha hb
theorem z_lt {a b : Nat} (ha : a < 2147483648) (hb : b < 2147483648) : nI a < nI b ↔ a < b := nI_ltI ha hb
theorem z_eq {a b : Nat} (ha : a < 2147483648) (hb : b < 2147483648) : nI a = nI b ↔ a = b := nI_eq ha hb
theorem z_m9 {k : Nat} (hk : k < 2147483648) : ¬ nI k = -9 := by
  intro h
  have := congrArg Int32.toInt h
  rw [nI_toInt hk] at this
  have e : (-9 : Int32).toInt = -9 := by decide
  rw [e] at this
  omega
def oi : Option Nat → Int32
  | none => -9
  | some k => nI k
theorem oi_none : oi none = -9 := rfl
theorem oi_some (k : Nat) : oi (some k) = nI k := rfl
theorem oi_m9 {o : Option Nat} (h : ∀ k, o = some k → k < 2147483648) : oi o = -9 ↔ o = none := by
  cases o with
  | none => simp [oi]
  | some k => simp [oi, z_m9 (h k rfl)]
theorem oi_inj {a b : Option Nat} (ha : ∀ k, a = some k → k < 2147483648) (hb : ∀ k, b = some k → k < 2147483648) (h : oi a = oi b) : a = b := by
  cases a with
  | none =>
    cases b with
    | none => rfl
    | some k => exact absurd h.symm (z_m9 (hb k rfl))
  | some j =>
    cases b with
    | none => exact absurd h (z_m9 (ha j rfl))
    | some k => rw [(z_eq (ha j rfl) (hb k rfl)).mp h]
/-! ===== own: sets of 12 as masks ===== -/
def bmN (s : Nat → Bool) : Nat → Nat
  | 0 => 0
  | n + 1 => bmN s n ||| (if s n then 2 ^ n else 0)
theorem bmN_bit (s : Nat → Bool) (k : Nat) : ∀ n, (bmN s n).testBit k = (decide (k < n) && s k)
  | 0 => by simp [bmN]
  | n + 1 => by
    rw [bmN, Nat.testBit_or, bmN_bit s k n]
    by_cases h : k = n
    · subst h
      cases hs : s k <;> simp [Nat.testBit_two_pow]
    · have e : (if s n then 2 ^ n else 0).testBit k = false := by
        cases s n
        · simp
        · simp [Nat.testBit_two_pow]; omega
      rw [e, Bool.or_false]
      congr 1
      exact decide_eq_decide.mpr (by omega)
def bm (s : Nat → Bool) : Int32 := nI (bmN s 12)
theorem bt_nI (n : Nat) {k : Nat} (hk : k < 32) : bt (nI n) k = n.testBit k := by
  show (BitVec.ofNat 32 n).getLsbD k = _
  rw [BitVec.getLsbD_ofNat]
  simp [hk]
theorem bt_bm (s : Nat → Bool) {k : Nat} (hk : k < 32) : bt (bm s) k = (decide (k < 12) && s k) := by
  rw [bm, bt_nI _ hk, bmN_bit]
theorem bm_ext {s t : Nat → Bool} (h : ∀ k, k < 12 → s k = t k) : bm s = bm t := by
  apply b_ext
  intro i hi
  rw [bt_bm s hi, bt_bm t hi]
  by_cases h12 : i < 12
  · rw [h i h12]
  · simp [h12]
theorem bm_inj {s t : Nat → Bool} (h : bm s = bm t) : ∀ k, k < 12 → s k = t k := by
  intro k hk
  have := congrArg (fun m => bt m k) h
  simp only [bt_bm s (show k < 32 by omega), bt_bm t (show k < 32 by omega), hk, decide_true, Bool.true_and] at this
  exact this
theorem bm_no : bm (fun _ => false) = 0 := by decide +kernel
theorem bm_0 {s : Nat → Bool} : bm s = 0 ↔ ∀ k, k < 12 → s k = false := by
  rw [← bm_no]
  exact ⟨fun h => bm_inj h, fun h => bm_ext h⟩
theorem bm_or (s t : Nat → Bool) : bm s ||| bm t = bm (fun k => s k || t k) := by
  apply b_ext
  intro i hi
  rw [b_or, bt_bm s hi, bt_bm t hi, bt_bm _ hi]
  cases decide (i < 12) <;> simp
theorem bm_and (s t : Nat → Bool) : bm s &&& bm t = bm (fun k => s k && t k) := by
  apply b_ext
  intro i hi
  rw [b_and, bt_bm s hi, bt_bm t hi, bt_bm _ hi]
  cases decide (i < 12) <;> simp
theorem bm_dif (s t : Nat → Bool) : bm s &&& (bm t ^^^ (-1)) = bm (fun k => s k && !t k) := by
  apply b_ext
  intro i hi
  rw [b_and, b_xor, b_m1 i hi, bt_bm s hi, bt_bm t hi, bt_bm _ hi]
  cases decide (i < 12) <;> simp
theorem bm_one : ∀ k, k < 12 → (1 : Int32) <<< (nI k &&& 31) = bm (fun j => decide (j = k)) := by decide +kernel
theorem bm_one0 : (1 : Int32) = bm (fun j => decide (j = 0)) := by decide +kernel
theorem bm_or0 (s : Nat → Bool) : bm s ||| 0 = bm s := by rw [← bm_no, bm_or]; exact bm_ext (fun k _ => by simp)
theorem bit_G (a : Int32) {k : Nat} (hk : k < 32) : (a >>> (nI k &&& 31)) &&& 1 = if bt a k then 1 else 0 := by
  apply b_ext
  intro i hi
  rw [b_and, b_sshr k hk a hi]
  have h1 : bt 1 i = decide (i = 0) := (by decide +kernel : ∀ i, i < 32 → bt 1 i = decide (i = 0)) i hi
  rw [h1]
  by_cases h0 : i = 0
  · subst h0
    cases h : bt a k <;> simp [hk, h, b_0, h1]
  · cases h : bt a k <;> simp [h0, b_0, h1]
theorem bit_bm (s : Nat → Bool) {k : Nat} (hk : k < 12) : (bm s >>> (nI k &&& 31)) &&& 1 = if s k then 1 else 0 := by
  rw [bit_G _ (by omega), bt_bm s (by omega)]
  simp [hk]
theorem bit_bm0 (s : Nat → Bool) {k : Nat} (hk : k < 12) : ((bm s >>> (nI k &&& 31)) &&& 1) = 0 ↔ s k = false := by
  rw [bit_bm s hk]
  cases s k <;> decide
/-! the least of a set, as the JDK counts it -/
def lb (s : Nat → Bool) : Nat → Nat
  | 0 => 0
  | n + 1 => if lb s n < n then lb s n else if s n then n else n + 1
theorem lb_le (s : Nat → Bool) : ∀ n, lb s n ≤ n
  | 0 => Nat.le_refl 0
  | n + 1 => by
    have ih := lb_le s n
    unfold lb
    split
    · omega
    · split <;> omega
theorem lb_no (s : Nat → Bool) : ∀ n k, k < lb s n → s k = false
  | 0, k, h => absurd h (Nat.not_lt_zero k)
  | n + 1, k, h => by
    have ih := lb_no s n
    have hl := lb_le s n
    unfold lb at h
    split at h
    · exact ih k h
    · split at h
      · exact ih k (by omega)
      · rename_i h1 h2
        by_cases hk : k = n
        · subst hk; simpa using h2
        · exact ih k (by omega)
theorem lb_yes (s : Nat → Bool) : ∀ n, lb s n < n → s (lb s n) = true
  | 0, h => absurd h (Nat.not_lt_zero _)
  | n + 1, h => by
    have ih := lb_yes s n
    unfold lb at h ⊢
    split
    · rename_i h1; exact ih h1
    · rename_i h1
      split
      · rename_i h2; exact h2
      · rename_i h2; rw [if_neg h1, if_neg h2] at h; omega
theorem lb_ex {s : Nat → Bool} {n k : Nat} (hk : k < n) (h : s k = true) : lb s n < n := by
  rcases Nat.lt_or_ge (lb s n) n with q | q
  · exact q
  · have := lb_no s n k (by omega)
    rw [h] at this; cases this
theorem lb_ext {s t : Nat → Bool} : ∀ n, (∀ k, k < n → s k = t k) → lb s n = lb t n
  | 0, _ => rfl
  | n + 1, h => by rw [lb, lb, lb_ext n (fun k hk => h k (by omega)), h n (by omega)]
theorem ntz_x (a : Int32) (x : nz_S) : f_J6_numberOfTrailingZeros_0f7a4 a x = (f_J6_numberOfTrailingZeros_0f7a4 a nz_x0).map (fun p => (p.1, x)) := by
  unfold f_J6_numberOfTrailingZeros_0f7a4
  simp only []
  repeat' split
  all_goals rfl
theorem ntz_n2 : ∀ a, a < 64 → ∀ b, b < 64 → 64 * a + b ≠ 0 → ((f_J6_numberOfTrailingZeros_0f7a4 (nI (64 * a + b)) nz_x0).map Prod.fst = some (nI (lb (fun k => (64 * a + b).testBit k) 12))) := by decide +kernel
theorem ntz_n (m : Nat) (h : m < 4096) (h0 : m ≠ 0) : (f_J6_numberOfTrailingZeros_0f7a4 (nI m) nz_x0).map Prod.fst = some (nI (lb (fun k => m.testBit k) 12)) := by
  have e : 64 * (m / 64) + m % 64 = m := Nat.div_add_mod m 64
  have := ntz_n2 (m / 64) (by omega) (m % 64) (by omega) (by rw [e]; exact h0)
  rw [e] at this
  exact this
theorem bmN_lt (s : Nat → Bool) : ∀ n, bmN s n < 2 ^ n
  | 0 => by simp [bmN]
  | n + 1 => by
    have ih := bmN_lt s n
    rw [bmN]
    apply Nat.or_lt_two_pow
    · exact Nat.lt_of_lt_of_le ih (Nat.pow_le_pow_right (by omega) (by omega))
    · split
      · exact Nat.pow_lt_pow_right (by omega) (by omega)
      · exact Nat.two_pow_pos _
theorem ntz_bm {s : Nat → Bool} (h : ∃ k, k < 12 ∧ s k = true) (x : nz_S) : f_J6_numberOfTrailingZeros_0f7a4 (bm s) x = some (nI (lb s 12), x) := by
  have h0 : bmN s 12 ≠ 0 := by
    intro e
    obtain ⟨k, hk, hs⟩ := h
    have := bmN_bit s k 12
    rw [e, hs] at this
    simp [hk] at this
  have h1 := ntz_n (bmN s 12) (bmN_lt s 12) h0
  rw [ntz_x, bm]
  cases hf : f_J6_numberOfTrailingZeros_0f7a4 (nI (bmN s 12)) nz_x0 with
  | none => rw [hf] at h1; cases h1
  | some p =>
    rw [hf] at h1
    have e : p.1 = nI (lb (fun k => (bmN s 12).testBit k) 12) := Option.some.inj h1
    simp only [Option.map_some]
    rw [e, show lb (fun k => (bmN s 12).testBit k) 12 = lb s 12 from lb_ext 12 (fun k hk => by rw [bmN_bit]; simp [hk])]
