/-! numbers and bits; the first rows are pasted from kit/rows -/
theorem pk_us {f : Nat → Int32} {k : Nat} {x : Int32} : upd f k x k = x := if_pos rfl
theorem pk_un {f : Nat → Int32} {k j : Nat} {x : Int32} (h : j ≠ k) : upd f k x j = f j := if_neg h
theorem pk_uLs {f : Nat → Int64} {k : Nat} {x : Int64} : vp_updL f k x k = x := if_pos rfl
theorem pk_uLn {f : Nat → Int64} {k j : Nat} {x : Int64} (h : j ≠ k) : vp_updL f k x j = f j := if_neg h
theorem pk_sub {a b : Nat} (h : b ≤ a) : nI a - nI b = nI (a - b) := by
  obtain ⟨c, rfl⟩ : ∃ c, a = c + b := ⟨a - b, by omega⟩
  rw [← nI_add, Int32.add_sub_cancel, Nat.add_sub_cancel]
theorem pk_m1 (n : Nat) : nI (n + 1) + (-1) = nI n := by
  rw [← nI_1, Int32.add_assoc, show (1 : Int32) + (-1) = 0 from rfl, Int32.add_zero]
theorem pk_mul (a b : Nat) : nI a * nI b = nI (a * b) := (Int32.ofNat_mul a b).symm
theorem pk_div {a d : Nat} (ha : a < 2 ^ 31) (h0 : 0 < d) (hd : d < 2 ^ 31) : nI a / nI d = nI (a / d) := by
  apply Int32.toInt_inj.mp
  rw [lg_idiv_nonneg (by rw [nI_toInt ha]; omega) (by rw [nI_toInt hd]; omega), nI_toInt ha, nI_toInt hd, nI_toInt (Nat.lt_of_le_of_lt (Nat.div_le_self a d) ha)]
  first | rfl | exact (Int.natCast_ediv _ _).symm
theorem pk_rem {a d : Nat} (ha : a < 2 ^ 31) (h0 : 0 < d) (hd : d < 2 ^ 31) : nI a - nI a / nI d * nI d = nI (a % d) := by
  rw [pk_div ha h0 hd, pk_mul, pk_sub (Nat.div_mul_le_self a d)]
  exact congrArg nI (by have := Nat.div_add_mod' a d; omega)
theorem pk_sub_toInt {a b : Nat} (ha : a < 2 ^ 30) (hb : b < 2 ^ 30) : (nI a - nI b).toInt = (a : Int) - b := by
  rw [Int32.toInt_sub, nI_toInt (by omega), nI_toInt (by omega)]
  exact Int.bmod_eq_of_le (by omega) (by omega)
theorem pk_sneg {a b : Nat} (hb : b < 2 ^ 30) (h : a < b) : nI a - nI b < 0 := by
  rw [Int32.lt_iff_toInt_lt, pk_sub_toInt (by omega) hb, show (0 : Int32).toInt = 0 from by decide]
  omega
theorem pk_ix (x : Int32) {n : Nat} (hn : n < 2 ^ 31) : x < 0 ∨ nI n ≤ x ∨ ∃ j : Nat, j < n ∧ x = nI j := by
  by_cases h : x < 0
  · exact Or.inl h
  · obtain ⟨j, hj, rfl⟩ := nI_of h
    by_cases h2 : j < n
    · exact Or.inr (Or.inr ⟨j, h2, rfl⟩)
    · exact Or.inr (Or.inl (nI_le (by omega) hj))
theorem pk_in {x : Int32} (n N : Nat) (h : n < N) (hx : x = nI n := by rfl) (hN : N < 2 ^ 31 := by omega) : vp_in x N := by
  subst hx
  exact vp_in_nI h hN
theorem pk_cl {x : Int32} (n : Nat) (hx : x = nI n := by rfl) (h : n < 2 ^ 31 := by omega) : x.toNatClampNeg = n := by
  subst hx
  exact nI_clamp h
theorem pk_loop {σ : Type} (W : Nat → Nat → σ → Prop) (I : Nat → σ → Prop) (e i0 : Nat) (s : σ) (hi : i0 ≤ e) (h0 : I i0 s) (hx : ∀ n s, I e s → W (n + 1) e s)
    (hs : ∀ n i s, i < e → I i s → (∀ s', I (i + 1) s' → W n (i + 1) s') → W (n + 1) i s) : ∃ n, W n i0 s :=
  ⟨e + 1, loop_i W I e hx hs (e + 1) i0 s hi (by omega) h0⟩
theorem ek_if {c d A B : Prop} (e : c ↔ d) (f : d → A) (g : ¬ d → B) : (c → A) ∧ (¬ c → B) :=
  ⟨fun z => f (e.mp z), fun z => g (fun y => z (e.mpr y))⟩
theorem ek_v {α : Sort _} {P : α → Prop} {a b : α} (e : a = b) (h : P b) : P a := e ▸ h
theorem ts_bit {w : Int64} {s : UInt64} {j : Nat} (hj : j < 64) (hs : s.toNat = j) : ((w.toUInt64 >>> s).toInt64 &&& 1) = 0 ↔ w.toBitVec.getLsbD j = false := by
  have e : (w.toUInt64 >>> s).toInt64.toBitVec = w.toBitVec >>> j := by
    apply BitVec.eq_of_toNat_eq
    show (w.toUInt64 >>> s).toNat = _
    rw [UInt64.toNat_shiftRight, hs, Nat.mod_eq_of_lt hj, BitVec.toNat_ushiftRight]
    rfl
  rw [← Int64.toBitVec_inj, Int64.toBitVec_and, e]
  show w.toBitVec >>> j &&& 1#64 = 0#64 ↔ _
  constructor
  · intro h
    have t := congrArg (fun x => x.getLsbD 0) h
    simpa using t
  · intro h
    apply BitVec.eq_of_getLsbD_eq
    intro i hi
    cases i with
    | zero => simp [h]
    | succ i => simp
theorem qn_ge {i : Nat} (h : i < 36) : ¬ (36 : Int32) ≤ nI i := nI_ge (b := 36) h (by decide)
theorem qn_le : (36 : Int32) ≤ nI 36 := by decide
theorem qn_in {i : Nat} (h : i < 36) : vp_in (nI i) 36 := vp_in_nI h (by decide)
theorem qn_cl {i : Nat} (h : i < 36) : (nI i).toNatClampNeg = i := nI_clamp (by omega)
theorem qn_6 : ¬ (6 : Int32) = 0 := by decide
theorem qn_36 : ¬ (36 : Int32) = 0 := by decide
theorem qn_d6 {a : Nat} (h : a < 2000) : nI a / 6 = nI (a / 6) := pk_div (by omega) (by decide) (by decide)
theorem qn_m6 {a : Nat} (h : a < 2000) : nI a - nI a / 6 * 6 = nI (a % 6) := pk_rem (by omega) (by decide) (by decide)
theorem qn_d36 {a : Nat} (h : a < 2000) : nI a / 36 = nI (a / 36) := pk_div (by omega) (by decide) (by decide)
theorem qn_m36 {a : Nat} (h : a < 2000) : nI a - nI a / 36 * 36 = nI (a % 36) := pk_rem (by omega) (by decide) (by decide)
theorem qn_6x (a : Nat) : (6 : Int32) * nI a = nI (6 * a) := pk_mul 6 a
theorem qn_eq {a b : Nat} (ha : a < 2000) (hb : b < 2000) : nI a = nI b ↔ a = b := nI_eq (by omega) (by omega)
theorem qn_lt {a b : Nat} (ha : a < 2000) (hb : b < 2000) : nI a < nI b ↔ a < b := nI_ltI (by omega) (by omega)
theorem qn_leI {a b : Nat} (ha : a < 2000) (hb : b < 2000) : nI a ≤ nI b ↔ a ≤ b := nI_leI (by omega) (by omega)
theorem qn_m2 {a : Nat} (ha : a < 2000) : ¬ nI a = -2 := by
  intro h
  have h2 := nI_pos (n := a) (by omega)
  rw [h] at h2
  exact h2 (by decide)
theorem qn_m1 {a : Nat} (ha : a < 2000) : ¬ nI a = -1 := by
  intro h
  have h2 := nI_pos (n := a) (by omega)
  rw [h] at h2
  exact h2 (by decide)
/-- a set of cells as a long: bit i -/
def qb_t (x : Int64) (i : Nat) : Bool := x.toBitVec.getLsbD i
theorem qb_ext {x y : Int64} (h : ∀ i, i < 64 → qb_t x i = qb_t y i) : x = y := Int64.toBitVec_inj.mp (BitVec.eq_of_getLsbD_eq (fun i hi => h i hi))
theorem qb_or (x y : Int64) (i : Nat) : qb_t (x ||| y) i = (qb_t x i || qb_t y i) := by unfold qb_t; rw [Int64.toBitVec_or, BitVec.getLsbD_or]
theorem qb_and (x y : Int64) (i : Nat) : qb_t (x &&& y) i = (qb_t x i && qb_t y i) := by unfold qb_t; rw [Int64.toBitVec_and, BitVec.getLsbD_and]
theorem qb_xor (x y : Int64) (i : Nat) : qb_t (x ^^^ y) i = (qb_t x i ^^ qb_t y i) := by unfold qb_t; rw [Int64.toBitVec_xor, BitVec.getLsbD_xor]
theorem qb_big {x : Int64} {i : Nat} (h : 64 ≤ i) : qb_t x i = false := BitVec.getLsbD_of_ge _ _ h
theorem qb_0 (i : Nat) : qb_t 0 i = false := BitVec.getLsbD_zero
theorem qb_m1 : ∀ i, i < 64 → qb_t (-1) i = true := by decide +kernel
theorem qb_1 (i : Nat) : qb_t 1 i = decide (i = 0) := by
  show (1#64).getLsbD i = _
  simp
theorem qb_tp : ∀ c, c < 36 → ((1 : Int64) <<< ((nI c).toInt64 &&& 63)).toBitVec = BitVec.twoPow 64 c := by decide +kernel
theorem qb_one {c : Nat} (hc : c < 36) (i : Nat) : qb_t ((1 : Int64) <<< ((nI c).toInt64 &&& 63)) i = decide (i = c) := by
  unfold qb_t
  rw [qb_tp c hc, BitVec.getLsbD_twoPow]
  have h : decide (c < 64) = true := decide_eq_true (by omega)
  rw [h, Bool.true_and]
  by_cases e : c = i
  · subst e; simp
  · have e2 : ¬ i = c := fun z => e z.symm
    simp [e, e2]
theorem qb_cu : ∀ k, k < 36 → ((nI k).toInt64.toUInt64 &&& Int64.toUInt64 63).toNat = k := by decide +kernel
theorem qb_h0 {x : Int64} {c : Nat} (hc : c < 36) : ((x.toUInt64 >>> ((nI c).toInt64.toUInt64 &&& Int64.toUInt64 63)).toInt64 &&& 1) = 0 ↔ qb_t x c = false := ts_bit (by omega) (qb_cu c hc)
theorem qb_01 (y : Int64) : (y &&& 1) = 1 ↔ ¬ (y &&& 1) = 0 := by
  constructor
  · intro h; rw [h]; decide
  · intro h
    apply qb_ext
    intro i hi
    rw [qb_and, qb_1]
    by_cases e : i = 0
    · subst e
      cases hy : qb_t y 0 with
      | true => rfl
      | false =>
        exfalso
        apply h
        apply qb_ext
        intro i hi
        rw [qb_and, qb_1, qb_0]
        by_cases e : i = 0
        · subst e; rw [hy]; rfl
        · simp [e]
    · simp [e]
theorem qb_h1 {x : Int64} {c : Nat} (hc : c < 36) : ((x.toUInt64 >>> ((nI c).toInt64.toUInt64 &&& Int64.toUInt64 63)).toInt64 &&& 1) = 1 ↔ qb_t x c = true := by
  rw [qb_01, qb_h0 hc]
  cases qb_t x c <;> simp
/-- x is the set of the cells that P names -/
def qb_m (x : Int64) (P : Nat → Bool) : Prop := ∀ i, qb_t x i = (decide (i < 36) && P i)
theorem qb_mt {x : Int64} {P : Nat → Bool} (h : qb_m x P) {i : Nat} (hi : i < 36) : qb_t x i = P i := by
  rw [h i, decide_eq_true hi, Bool.true_and]
theorem qb_mo {x : Int64} {P : Nat → Bool} (h : qb_m x P) {i : Nat} (hi : ¬ i < 36) : qb_t x i = false := by
  rw [h i, decide_eq_false hi, Bool.false_and]
theorem qb_mc {x : Int64} {P Q : Nat → Bool} (h : qb_m x P) (e : ∀ i, i < 36 → P i = Q i) : qb_m x Q := by
  intro i
  by_cases hi : i < 36
  · rw [qb_mt h hi, decide_eq_true hi, Bool.true_and, e i hi]
  · rw [qb_mo h hi, decide_eq_false hi, Bool.false_and]
theorem qb_mu {x y : Int64} {P : Nat → Bool} (h : qb_m x P) (g : qb_m y P) : x = y := qb_ext fun i _ => by rw [h i, g i]
theorem qb_m0 : qb_m 0 (fun _ => false) := fun i => by rw [qb_0, Bool.and_false]
theorem qb_mor {x y : Int64} {P Q : Nat → Bool} (h : qb_m x P) (g : qb_m y Q) : qb_m (x ||| y) (fun i => P i || Q i) := fun i => by
  rw [qb_or, h i, g i, Bool.and_or_distrib_left]
theorem qb_m1c {c : Nat} (hc : c < 36) : qb_m ((1 : Int64) <<< ((nI c).toInt64 &&& 63)) (fun i => decide (i = c)) := fun i => by
  rw [qb_one hc]
  by_cases e : i = c
  · subst e; simp [hc]
  · simp [e]
theorem qb_ms {x : Int64} {P : Nat → Bool} {c : Nat} (hc : c < 36) (h : qb_m x P) : qb_m (x ||| ((1 : Int64) <<< ((nI c).toInt64 &&& 63))) (fun i => P i || decide (i = c)) := qb_mor h (qb_m1c hc)
theorem qb_an {x y : Int64} {P Q : Nat → Bool} (h : qb_m x P) (g : qb_m y Q) : (x &&& y) = 0 ↔ ∀ i, i < 36 → P i = true → Q i = false := by
  constructor
  · intro e i hi hp
    have t : qb_t (x &&& y) i = qb_t 0 i := by rw [e]
    rw [qb_and, qb_mt h hi, qb_mt g hi, qb_0, hp, Bool.true_and] at t
    exact t
  · intro a
    apply qb_ext
    intro i hi
    rw [qb_and, qb_0]
    by_cases h3 : i < 36
    · rw [qb_mt h h3, qb_mt g h3]
      cases hp : P i with
      | false => rfl
      | true => rw [a i h3 hp]; rfl
    · rw [qb_mo h h3]; rfl
theorem qb_sub {x y : Int64} {P Q : Nat → Bool} (h : qb_m x P) (g : qb_m y Q) : (x &&& (y ^^^ (-1))) = 0 ↔ ∀ i, i < 36 → P i = true → Q i = true := by
  constructor
  · intro e i hi hp
    have t : qb_t (x &&& (y ^^^ (-1))) i = qb_t 0 i := by rw [e]
    rw [qb_and, qb_xor, qb_m1 i (by omega), qb_mt h hi, qb_mt g hi, qb_0, hp] at t
    cases hq : Q i with
    | true => rfl
    | false => rw [hq] at t; exact absurd t (by decide)
  · intro a
    apply qb_ext
    intro i hi
    rw [qb_and, qb_xor, qb_m1 i hi, qb_0]
    by_cases h3 : i < 36
    · rw [qb_mt h h3, qb_mt g h3]
      cases hp : P i with
      | false => rfl
      | true => rw [a i h3 hp]; rfl
    · rw [qb_mo h h3]; rfl
theorem qh_X {post : Int32 → Prop} {x : Int64} {c : Nat} (hc : c < 36) (hf : qb_t x c = false → post 0) (ht : qb_t x c = true → post 1) : wpX_holds post x (nI c) := by
  cases hb : qb_t x c with
  | false => exact br_t ((qb_h0 hc).mpr hb) (hf hb)
  | true => exact br_f (fun z => by rw [(qb_h0 hc).mp z] at hb; cases hb) (ht hb)
theorem qh_XB {A B : Prop} {x : Int64} {P : Nat → Bool} (m : qb_m x P) {c : Nat} (hc : c < 36) (hf : P c = false → A) (ht : P c = true → B) : wpX_holds (fun r => (r = 0 → A) ∧ (¬ r = 0 → B)) x (nI c) :=
  qh_X hc (fun h => br_t rfl (hf (by rw [← qb_mt m hc]; exact h))) (fun h => br_f (by decide) (ht (by rw [← qb_mt m hc]; exact h)))
theorem qh_Y {post : Int32 → Prop} {v : SY} {x : Int64} {c : Nat} (hc : c < 36) (hf : qb_t x c = false → post 0) (ht : qb_t x c = true → post 1) : wpY_holds post v x (nI c) := by
  obtain ⟨ks, os, oa, ob, oc, fr, di, fa, wk, nx⟩ := v
  cases hb : qb_t x c with
  | true => exact br_t ((qb_h1 hc).mpr hb) (ht hb)
  | false => exact br_f (fun z => by rw [(qb_h1 hc).mp z] at hb; cases hb) (hf hb)
theorem qh_YB {A B : Prop} {v : SY} {x : Int64} {P : Nat → Bool} (m : qb_m x P) {c : Nat} (hc : c < 36) (hf : P c = false → A) (ht : P c = true → B) : wpY_holds (fun r => (r = 0 → A) ∧ (¬ r = 0 → B)) v x (nI c) :=
  qh_Y hc (fun h => br_t rfl (hf (by rw [← qb_mt m hc]; exact h))) (fun h => br_f (by decide) (ht (by rw [← qb_mt m hc]; exact h)))
