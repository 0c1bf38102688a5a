section
/-! numbers and bits; the first rows are pasted from kit/rows -/
theorem pk_us {f : Nat → Int32} {k : Nat} {x : Int32} : upd f k x k = x := if_pos rfl
theorem pk_un {f : Nat → Int32} {k j : Nat} {x : Int32} (h : j ≠ k) : upd f k x j = f j := if_neg h
theorem pk_uLs {f : Nat → Int64} {k : Nat} {x : Int64} : vp_updL f k x k = x := if_pos rfl
theorem pk_uLn {f : Nat → Int64} {k j : Nat} {x : Int64} (h : j ≠ k) : vp_updL f k x j = f j := if_neg h
theorem pk_sub {a b : Nat} (h : b ≤ a) : nI a - nI b = nI (a - b) := by
  obtain ⟨c, rfl⟩ : ∃ c, a = c + b := ⟨a - b, by omega⟩
  rw [← nI_add, Int32.add_sub_cancel, Nat.add_sub_cancel]
theorem pk_m1 (n : Nat) : nI (n + 1) + (-1) = nI n := by
  rw [← nI_1, Int32.add_assoc, show (1 : Int32) + (-1) = 0 from rfl, Int32.add_zero]
theorem pk_mul (a b : Nat) : nI a * nI b = nI (a * b) := (Int32.ofNat_mul a b).symm
theorem pk_div {a d : Nat} (ha : a < 2 ^ 31) (h0 : 0 < d) (hd : d < 2 ^ 31) : nI a / nI d = nI (a / d) := by
  apply Int32.toInt_inj.mp
  rw [lg_idiv_nonneg (by rw [nI_toInt ha]; omega) (by rw [nI_toInt hd]; omega), nI_toInt ha, nI_toInt hd, nI_toInt (Nat.lt_of_le_of_lt (Nat.div_le_self a d) ha)]
  first | rfl | exact (Int.natCast_ediv _ _).symm
theorem pk_rem {a d : Nat} (ha : a < 2 ^ 31) (h0 : 0 < d) (hd : d < 2 ^ 31) : nI a - nI a / nI d * nI d = nI (a % d) := by
  rw [pk_div ha h0 hd, pk_mul, pk_sub (Nat.div_mul_le_self a d)]
  exact congrArg nI (by have := Nat.div_add_mod' a d; omega)
theorem pk_sub_toInt {a b : Nat} (ha : a < 2 ^ 30) (hb : b < 2 ^ 30) : (nI a - nI b).toInt = (a : Int) - b := by
  rw [Int32.toInt_sub, nI_toInt (by omega), nI_toInt (by omega)]
  exact Int.bmod_eq_of_le (by omega) (by omega)
theorem pk_sneg {a b : Nat} (hb : b < 2 ^ 30) (h : a < b) : nI a - nI b < 0 := by
  rw [Int32.lt_iff_toInt_lt, pk_sub_toInt (by omega) hb, show (0 : Int32).toInt = 0 from by decide]
  omega
theorem pk_ix (x : Int32) {n : Nat} (hn : n < 2 ^ 31) : x < 0 ∨ nI n ≤ x ∨ ∃ j : Nat, j < n ∧ x = nI j := by
  by_cases h : x < 0
  · exact Or.inl h
  · obtain ⟨j, hj, rfl⟩ := nI_of h
    by_cases h2 : j < n
    · exact Or.inr (Or.inr ⟨j, h2, rfl⟩)
    · exact Or.inr (Or.inl (nI_le (by omega) hj))
theorem pk_in {x : Int32} (n N : Nat) (h : n < N) (hx : x = nI n := by rfl) (hN : N < 2 ^ 31 := by omega) : vp_in x N := by
  subst hx
  exact vp_in_nI h hN
theorem pk_cl {x : Int32} (n : Nat) (hx : x = nI n := by rfl) (h : n < 2 ^ 31 := by omega) : x.toNatClampNeg = n := by
  subst hx
  exact nI_clamp h
theorem pk_loop {σ : Type} (W : Nat → Nat → σ → Prop) (I : Nat → σ → Prop) (e i0 : Nat) (s : σ) (hi : i0 ≤ e) (h0 : I i0 s) (hx : ∀ n s, I e s → W (n + 1) e s)
    (hs : ∀ n i s, i < e → I i s → (∀ s', I (i + 1) s' → W n (i + 1) s') → W (n + 1) i s) : ∃ n, W n i0 s :=
  ⟨e + 1, loop_i W I e hx hs (e + 1) i0 s hi (by omega) h0⟩
theorem ek_if {c d A B : Prop} (e : c ↔ d) (f : d → A) (g : ¬ d → B) : (c → A) ∧ (¬ c → B) :=
  ⟨fun z => f (e.mp z), fun z => g (fun y => z (e.mpr y))⟩
theorem ek_v {α : Sort _} {P : α → Prop} {a b : α} (e : a = b) (h : P b) : P a := e ▸ h
theorem ts_bit {w : Int64} {s : UInt64} {j : Nat} (hj : j < 64) (hs : s.toNat = j) : ((w.toUInt64 >>> s).toInt64 &&& 1) = 0 ↔ w.toBitVec.getLsbD j = false := by
  have e : (w.toUInt64 >>> s).toInt64.toBitVec = w.toBitVec >>> j := by
    apply BitVec.eq_of_toNat_eq
    show (w.toUInt64 >>> s).toNat = _
    rw [UInt64.toNat_shiftRight, hs, Nat.mod_eq_of_lt hj, BitVec.toNat_ushiftRight]
    rfl
  rw [← Int64.toBitVec_inj, Int64.toBitVec_and, e]
  show w.toBitVec >>> j &&& 1#64 = 0#64 ↔ _
  constructor
  · intro h
    have t := congrArg (fun x => x.getLsbD 0) h
    simpa using t
  · intro h
    apply BitVec.eq_of_getLsbD_eq
    intro i hi
    cases i with
    | zero => simp [h]
    | succ i => simp
theorem qn_ge {i : Nat} (h : i < 36) : ¬ (36 : Int32) ≤ nI i := nI_ge (b := 36) h (by decide)
theorem qn_le : (36 : Int32) ≤ nI 36 := by decide
theorem qn_in {i : Nat} (h : i < 36) : vp_in (nI i) 36 := vp_in_nI h (by decide)
theorem qn_cl {i : Nat} (h : i < 36) : (nI i).toNatClampNeg = i := nI_clamp (by omega)
theorem qn_6 : ¬ (6 : Int32) = 0 := by decide
theorem qn_36 : ¬ (36 : Int32) = 0 := by decide
theorem qn_d6 {a : Nat} (h : a < 2000) : nI a / 6 = nI (a / 6) := pk_div (by omega) (by decide) (by decide)
theorem qn_m6 {a : Nat} (h : a < 2000) : nI a - nI a / 6 * 6 = nI (a % 6) := pk_rem (by omega) (by decide) (by decide)
theorem qn_d36 {a : Nat} (h : a < 2000) : nI a / 36 = nI (a / 36) := pk_div (by omega) (by decide) (by decide)
theorem qn_m36 {a : Nat} (h : a < 2000) : nI a - nI a / 36 * 36 = nI (a % 36) := pk_rem (by omega) (by decide) (by decide)
theorem qn_6x (a : Nat) : (6 : Int32) * nI a = nI (6 * a) := pk_mul 6 a
theorem qn_eq {a b : Nat} (ha : a < 2000) (hb : b < 2000) : nI a = nI b ↔ a = b := nI_eq (by omega) (by omega)
theorem qn_lt {a b : Nat} (ha : a < 2000) (hb : b < 2000) : nI a < nI b ↔ a < b := nI_ltI (by omega) (by omega)
theorem qn_leI {a b : Nat} (ha : a < 2000) (hb : b < 2000) : nI a ≤ nI b ↔ a ≤ b := nI_leI (by omega) (by omega)
theorem qn_m2 {a : Nat} (ha : a < 2000) : ¬ nI a = -2 := by
  intro h
  have h2 := nI_pos (n := a) (by omega)
  rw [h] at h2
  exact h2 (by decide)
theorem qn_m1 {a : Nat} (ha : a < 2000) : ¬ nI a = -1 := by
  intro h
  have h2 := nI_pos (n := a) (by omega)
  rw [h] at h2
  exact h2 (by decide)
/-- a set of cells as a long: bit i -/
def qb_t (x : Int64) (i : Nat) : Bool := x.toBitVec.getLsbD i
theorem qb_ext {x y : Int64} (h : ∀ i, i < 64 → qb_t x i = qb_t y i) : x = y := Int64.toBitVec_inj.mp (BitVec.eq_of_getLsbD_eq (fun i hi => h i hi))
theorem qb_or (x y : Int64) (i : Nat) : qb_t (x ||| y) i = (qb_t x i || qb_t y i) := by unfold qb_t; rw [Int64.toBitVec_or, BitVec.getLsbD_or]
theorem qb_and (x y : Int64) (i : Nat) : qb_t (x &&& y) i = (qb_t x i && qb_t y i) := by unfold qb_t; rw [Int64.toBitVec_and, BitVec.getLsbD_and]
theorem qb_xor (x y : Int64) (i : Nat) : qb_t (x ^^^ y) i = (qb_t x i ^^ qb_t y i) := by unfold qb_t; rw [Int64.toBitVec_xor, BitVec.getLsbD_xor]
theorem qb_big {x : Int64} {i : Nat} (h : 64 ≤ i) : qb_t x i = false := BitVec.getLsbD_of_ge _ _ h
theorem qb_0 (i : Nat) : qb_t 0 i = false := BitVec.getLsbD_zero
theorem qb_m1 : ∀ i, i < 64 → qb_t (-1) i = true := by decide +kernel
theorem qb_1 (i : Nat) : qb_t 1 i = decide (i = 0) := by
  show (1#64).getLsbD i = _
  simp
theorem qb_tp : ∀ c, c < 36 → ((1 : Int64) <<< ((nI c).toInt64 &&& 63)).toBitVec = BitVec.twoPow 64 c := by decide +kernel
theorem qb_one {c : Nat} (hc : c < 36) (i : Nat) : qb_t ((1 : Int64) <<< ((nI c).toInt64 &&& 63)) i = decide (i = c) := by
  unfold qb_t
  rw [qb_tp c hc, BitVec.getLsbD_twoPow]
  have h : decide (c < 64) = true := decide_eq_true (by omega)
  rw [h, Bool.true_and]
  by_cases e : c = i
  · subst e; simp
  · have e2 : ¬ i = c := fun z => e z.symm
    simp [e, e2]
theorem qb_cu : ∀ k, k < 36 → ((nI k).toInt64.toUInt64 &&& Int64.toUInt64 63).toNat = k := by decide +kernel
theorem qb_h0 {x : Int64} {c : Nat} (hc : c < 36) : ((x.toUInt64 >>> ((nI c).toInt64.toUInt64 &&& Int64.toUInt64 63)).toInt64 &&& 1) = 0 ↔ qb_t x c = false := ts_bit (by omega) (qb_cu c hc)
theorem qb_01 (y : Int64) : (y &&& 1) = 1 ↔ ¬ (y &&& 1) = 0 := by
  constructor
  · intro h; rw [h]; decide
  · intro h
    apply qb_ext
    intro i hi
    rw [qb_and, qb_1]
    by_cases e : i = 0
    · subst e
      cases hy : qb_t y 0 with
      | true => rfl
      | false =>
        exfalso
        apply h
        apply qb_ext
        intro i hi
        rw [qb_and, qb_1, qb_0]
        by_cases e : i = 0
        · subst e; rw [hy]; rfl
        · simp [e]
    · simp [e]
theorem qb_h1 {x : Int64} {c : Nat} (hc : c < 36) : ((x.toUInt64 >>> ((nI c).toInt64.toUInt64 &&& Int64.toUInt64 63)).toInt64 &&& 1) = 1 ↔ qb_t x c = true := by
  rw [qb_01, qb_h0 hc]
  cases qb_t x c <;> simp
/-- x is the set of the cells that P names -/
def qb_m (x : Int64) (P : Nat → Bool) : Prop := ∀ i, qb_t x i = (decide (i < 36) && P i)
theorem qb_mt {x : Int64} {P : Nat → Bool} (h : qb_m x P) {i : Nat} (hi : i < 36) : qb_t x i = P i := by
  rw [h i, decide_eq_true hi, Bool.true_and]
theorem qb_mo {x : Int64} {P : Nat → Bool} (h : qb_m x P) {i : Nat} (hi : ¬ i < 36) : qb_t x i = false := by
  rw [h i, decide_eq_false hi, Bool.false_and]
theorem qb_mc {x : Int64} {P Q : Nat → Bool} (h : qb_m x P) (e : ∀ i, i < 36 → P i = Q i) : qb_m x Q := by
  intro i
  by_cases hi : i < 36
  · rw [qb_mt h hi, decide_eq_true hi, Bool.true_and, e i hi]
  · rw [qb_mo h hi, decide_eq_false hi, Bool.false_and]
theorem qb_mu {x y : Int64} {P : Nat → Bool} (h : qb_m x P) (g : qb_m y P) : x = y := qb_ext fun i _ => by rw [h i, g i]
theorem qb_m0 : qb_m 0 (fun _ => false) := fun i => by rw [qb_0, Bool.and_false]
theorem qb_mor {x y : Int64} {P Q : Nat → Bool} (h : qb_m x P) (g : qb_m y Q) : qb_m (x ||| y) (fun i => P i || Q i) := fun i => by
  rw [qb_or, h i, g i, Bool.and_or_distrib_left]
theorem qb_m1c {c : Nat} (hc : c < 36) : qb_m ((1 : Int64) <<< ((nI c).toInt64 &&& 63)) (fun i => decide (i = c)) := fun i => by
  rw [qb_one hc]
  by_cases e : i = c
  · subst e; simp [hc]
  · simp [e]
theorem qb_ms {x : Int64} {P : Nat → Bool} {c : Nat} (hc : c < 36) (h : qb_m x P) : qb_m (x ||| ((1 : Int64) <<< ((nI c).toInt64 &&& 63))) (fun i => P i || decide (i = c)) := qb_mor h (qb_m1c hc)
theorem qb_an {x y : Int64} {P Q : Nat → Bool} (h : qb_m x P) (g : qb_m y Q) : (x &&& y) = 0 ↔ ∀ i, i < 36 → P i = true → Q i = false := by
  constructor
  · intro e i hi hp
    have t : qb_t (x &&& y) i = qb_t 0 i := by rw [e]
    rw [qb_and, qb_mt h hi, qb_mt g hi, qb_0, hp, Bool.true_and] at t
    exact t
  · intro a
    apply qb_ext
    intro i hi
    rw [qb_and, qb_0]
    by_cases h3 : i < 36
    · rw [qb_mt h h3, qb_mt g h3]
      cases hp : P i with
      | false => rfl
      | true => rw [a i h3 hp]; rfl
    · rw [qb_mo h h3]; rfl
theorem qb_sub {x y : Int64} {P Q : Nat → Bool} (h : qb_m x P) (g : qb_m y Q) : (x &&& (y ^^^ (-1))) = 0 ↔ ∀ i, i < 36 → P i = true → Q i = true := by
  constructor
  · intro e i hi hp
    have t : qb_t (x &&& (y ^^^ (-1))) i = qb_t 0 i := by rw [e]
    rw [qb_and, qb_xor, qb_m1 i (by omega), qb_mt h hi, qb_mt g hi, qb_0, hp] at t
    cases hq : Q i with
    | true => rfl
    | false => rw [hq] at t; exact absurd t (by decide)
  · intro a
    apply qb_ext
    intro i hi
    rw [qb_and, qb_xor, qb_m1 i hi, qb_0]
    by_cases h3 : i < 36
    · rw [qb_mt h h3, qb_mt g h3]
      cases hp : P i with
      | false => rfl
      | true => rw [a i h3 hp]; rfl
    · rw [qb_mo h h3]; rfl
theorem qh_X {post : Int32 → Prop} {x : Int64} {c : Nat} (hc : c < 36) (hf : qb_t x c = false → post 0) (ht : qb_t x c = true → post 1) : wpX_holds post x (nI c) := by
  cases hb : qb_t x c with
  | false => exact br_t ((qb_h0 hc).mpr hb) (hf hb)
  | true => exact br_f (fun z => by rw [(qb_h0 hc).mp z] at hb; cases hb) (ht hb)
theorem qh_XB {A B : Prop} {x : Int64} {P : Nat → Bool} (m : qb_m x P) {c : Nat} (hc : c < 36) (hf : P c = false → A) (ht : P c = true → B) : wpX_holds (fun r => (r = 0 → A) ∧ (¬ r = 0 → B)) x (nI c) :=
  qh_X hc (fun h => br_t rfl (hf (by rw [← qb_mt m hc]; exact h))) (fun h => br_f (by decide) (ht (by rw [← qb_mt m hc]; exact h)))
theorem qh_Y {post : Int32 → Prop} {v : SY} {x : Int64} {c : Nat} (hc : c < 36) (hf : qb_t x c = false → post 0) (ht : qb_t x c = true → post 1) : wpY_holds post v x (nI c) := by
  obtain ⟨ks, os, oa, ob, oc, fr, di, fa, wk, nx⟩ := v
  cases hb : qb_t x c with
  | true => exact br_t ((qb_h1 hc).mpr hb) (ht hb)
  | false => exact br_f (fun z => by rw [(qb_h1 hc).mp z] at hb; cases hb) (hf hb)
theorem qh_YB {A B : Prop} {v : SY} {x : Int64} {P : Nat → Bool} (m : qb_m x P) {c : Nat} (hc : c < 36) (hf : P c = false → A) (ht : P c = true → B) : wpY_holds (fun r => (r = 0 → A) ∧ (¬ r = 0 → B)) v x (nI c) :=
  qh_Y hc (fun h => br_t rfl (hf (by rw [← qb_mt m hc]; exact h))) (fun h => br_f (by decide) (ht (by rw [← qb_mt m hc]; exact h)))
end
section
/-! the pure picture: closure, rank, values by rank; no machine here -/
/-- some i below n has P -/
def qe_x (P : Nat → Bool) : Nat → Bool
  | 0 => false
  | n + 1 => qe_x P n || P n
theorem qe_iff {P : Nat → Bool} : ∀ {n : Nat}, qe_x P n = true ↔ ∃ i, i < n ∧ P i = true
  | 0 => ⟨fun h => (nomatch h), fun ⟨i, hi, _⟩ => absurd hi (Nat.not_lt_zero i)⟩
  | n + 1 => by
    show (qe_x P n || P n) = true ↔ _
    rw [Bool.or_eq_true, qe_iff (n := n)]
    constructor
    · rintro (⟨i, hi, h⟩ | h)
      · exact ⟨i, by omega, h⟩
      · exact ⟨n, by omega, h⟩
    · rintro ⟨i, hi, h⟩
      by_cases e : i = n
      · subst e; exact Or.inr h
      · exact Or.inl ⟨i, by omega, h⟩
theorem qe_f {P : Nat → Bool} {n : Nat} : qe_x P n = false ↔ ∀ i, i < n → P i = false := by
  constructor
  · intro h i hi
    cases hp : P i with
    | false => rfl
    | true => rw [qe_iff.mpr ⟨i, hi, hp⟩] at h; cases h
  · intro h
    cases hq : qe_x P n with
    | false => rfl
    | true =>
      obtain ⟨i, hi, hp⟩ := qe_iff.mp hq
      rw [h i hi] at hp; cases hp
/-- how many below n have P -/
def qr_n (P : Nat → Bool) : Nat → Nat
  | 0 => 0
  | n + 1 => qr_n P n + (if P n = true then 1 else 0)
theorem qr_le {P Q : Nat → Bool} : ∀ {n : Nat}, (∀ i, i < n → P i = true → Q i = true) → qr_n P n ≤ qr_n Q n
  | 0, _ => Nat.le_refl _
  | n + 1, h => by
    have a := qr_le (n := n) (fun i hi => h i (by omega))
    have b := h n (by omega)
    show qr_n P n + (if P n = true then 1 else 0) ≤ qr_n Q n + (if Q n = true then 1 else 0)
    by_cases p : P n = true
    · rw [if_pos p, if_pos (b p)]; omega
    · rw [if_neg p]; omega
theorem qr_lt {P Q : Nat → Bool} : ∀ {n : Nat}, (∀ i, i < n → P i = true → Q i = true) → ∀ j, j < n → P j = false → Q j = true → qr_n P n < qr_n Q n
  | 0, _, j, hj, _, _ => absurd hj (Nat.not_lt_zero j)
  | n + 1, h, j, hj, pj, qj => by
    have b := h n (by omega)
    show qr_n P n + (if P n = true then 1 else 0) < qr_n Q n + (if Q n = true then 1 else 0)
    by_cases e : j = n
    · subst e
      have a := qr_le (n := j) (fun i hi => h i (by omega))
      rw [if_neg (by rw [pj]; decide), if_pos qj]; omega
    · have a := qr_lt (n := n) (fun i hi => h i (by omega)) j (by omega) pj qj
      by_cases p : P n = true
      · rw [if_pos p, if_pos (b p)]; omega
      · rw [if_neg p]; omega
theorem qr_all : ∀ n, qr_n (fun _ => true) n = n
  | 0 => rfl
  | n + 1 => by
    show qr_n (fun _ => true) n + (if true = true then 1 else 0) = n + 1
    rw [qr_all n, if_pos rfl]
/-- the closure by middles below m -/
def qw_m (D : Nat → Nat → Bool) : Nat → Nat → Nat → Bool
  | 0 => D
  | m + 1 => fun c d => qw_m D m c d || (qw_m D m c m && qw_m D m m d)
theorem qw_s (D : Nat → Nat → Bool) (m c d : Nat) : qw_m D (m + 1) c d = (qw_m D m c d || (qw_m D m c m && qw_m D m m d)) := rfl
theorem qw_si {D : Nat → Nat → Bool} {m c d : Nat} : qw_m D (m + 1) c d = true ↔ (qw_m D m c d = true ∨ (qw_m D m c m = true ∧ qw_m D m m d = true)) := by
  rw [qw_s, Bool.or_eq_true, Bool.and_eq_true]
theorem qw_D {D : Nat → Nat → Bool} {c d : Nat} (h : D c d = true) : ∀ m, qw_m D m c d = true
  | 0 => h
  | m + 1 => qw_si.mpr (Or.inl (qw_D h m))
theorem qw_tr {D : Nat → Nat → Bool} : ∀ (m : Nat) {k c d : Nat}, k < m → qw_m D m c k = true → qw_m D m k d = true → qw_m D m c d = true
  | 0, k, _, _, hk, _, _ => absurd hk (Nat.not_lt_zero k)
  | m + 1, k, c, d, hk, h1, h2 => by
    rw [qw_si] at h1 h2 ⊢
    by_cases e : k = m
    · subst e
      rcases h1 with h1 | ⟨h1, _⟩
      · rcases h2 with h2 | ⟨_, h2⟩
        · exact Or.inr ⟨h1, h2⟩
        · exact Or.inr ⟨h1, h2⟩
      · rcases h2 with h2 | ⟨_, h2⟩
        · exact Or.inr ⟨h1, h2⟩
        · exact Or.inr ⟨h1, h2⟩
    · have hk' : k < m := by omega
      rcases h1 with h1 | ⟨h1, h1'⟩
      · rcases h2 with h2 | ⟨h2, h2'⟩
        · exact Or.inl (qw_tr m hk' h1 h2)
        · exact Or.inr ⟨qw_tr m hk' h1 h2, h2'⟩
      · rcases h2 with h2 | ⟨_, h2'⟩
        · exact Or.inr ⟨h1, qw_tr m hk' h1' h2⟩
        · exact Or.inr ⟨h1, h2'⟩
theorem qw_min {D : Nat → Nat → Bool} (T : Nat → Nat → Prop) (h0 : ∀ c d, D c d = true → T c d) (ht : ∀ c k d, k < 36 → T c k → T k d → T c d) : ∀ (m : Nat), m ≤ 36 → ∀ {c d : Nat}, qw_m D m c d = true → T c d
  | 0, _, _, _, h => h0 _ _ h
  | m + 1, hm, c, d, h => by
    rw [qw_si] at h
    rcases h with h | ⟨h1, h2⟩
    · exact qw_min T h0 ht m (by omega) h
    · exact ht c m d (by omega) (qw_min T h0 ht m (by omega) h1) (qw_min T h0 ht m (by omega) h2)
def qf_F (D : Nat → Nat → Bool) (c d : Nat) : Bool := qw_m D 36 c d
theorem qf_D {D : Nat → Nat → Bool} {c d : Nat} (h : D c d = true) : qf_F D c d = true := qw_D h 36
theorem qf_tr {D : Nat → Nat → Bool} {c k d : Nat} (hk : k < 36) (h1 : qf_F D c k = true) (h2 : qf_F D k d = true) : qf_F D c d = true := qw_tr 36 hk h1 h2
theorem qf_1 {D : Nat → Nat → Bool} {c d : Nat} (h : qf_F D c d = true) : D c d = true ∨ ∃ e, e < 36 ∧ D c e = true ∧ qf_F D e d = true := by
  refine qw_min (D := D) (fun c d => D c d = true ∨ ∃ e, e < 36 ∧ D c e = true ∧ qf_F D e d = true) (fun c d h => Or.inl h) ?_ 36 (Nat.le_refl _) h
  intro c k d hk h1 h2
  have hkd : qf_F D k d = true := by
    rcases h2 with h2 | ⟨e, he, h2, h3⟩
    · exact qf_D h2
    · exact qf_tr he (qf_D h2) h3
  rcases h1 with h1 | ⟨e, he, h1, h3⟩
  · exact Or.inr ⟨k, hk, h1, hkd⟩
  · exact Or.inr ⟨e, he, h1, qf_tr hk h3 hkd⟩
/-- circular: in its own far set, or one of its sources is -/
def qf_c (D : Nat → Nat → Bool) (c : Nat) : Bool := qf_F D c c || qe_x (fun d => qf_F D c d && qf_F D d d) 36
theorem qf_ci {D : Nat → Nat → Bool} {c : Nat} : qf_c D c = true ↔ (qf_F D c c = true ∨ ∃ d, d < 36 ∧ qf_F D c d = true ∧ qf_F D d d = true) := by
  unfold qf_c
  rw [Bool.or_eq_true, qe_iff]
  simp only [Bool.and_eq_true]
theorem qf_nc {D : Nat → Nat → Bool} {c : Nat} : qf_c D c = false ↔ (qf_F D c c = false ∧ ∀ d, d < 36 → qf_F D c d = true → qf_F D d d = false) := by
  unfold qf_c
  rw [Bool.or_eq_false_iff, qe_f]
  constructor
  · rintro ⟨h1, h2⟩
    refine ⟨h1, fun d hd h => ?_⟩
    have t := h2 d hd
    rw [h, Bool.true_and] at t
    exact t
  · rintro ⟨h1, h2⟩
    refine ⟨h1, fun d hd => ?_⟩
    cases h : qf_F D c d with
    | false => rfl
    | true => rw [h2 d hd h]; rfl
theorem qf_dn {D : Nat → Nat → Bool} {c d : Nat} (hd : d < 36) (hc : qf_c D c = false) (h : D c d = true) : qf_c D d = false := by
  rw [qf_nc] at hc ⊢
  exact ⟨hc.2 d hd (qf_D h), fun e he h2 => hc.2 e he (qf_tr hd (qf_D h) h2)⟩
def qf_r (D : Nat → Nat → Bool) (c : Nat) : Nat := qr_n (qf_F D c) 36
theorem qf_rl {D : Nat → Nat → Bool} {c d : Nat} (hd : d < 36) (hc : qf_c D c = false) (h : D c d = true) : qf_r D d < qf_r D c :=
  qr_lt (fun i _ hi => qf_tr hd (qf_D h) hi) d hd ((qf_nc.mp hc).2 d hd (qf_D h)) (qf_D h)
theorem qf_rb {D : Nat → Nat → Bool} {c : Nat} (h36 : c < 36) (hc : qf_c D c = false) : qf_r D c < 36 := by
  have h := qr_lt (P := qf_F D c) (Q := fun _ => true) (n := 36) (fun _ _ _ => rfl) c h36 (qf_nc.mp hc).1 rfl
  rw [qr_all] at h
  exact h
/-- values by rank: E V c is what the cell c gets of V -/
def qv_n (E : (Nat → Int32) → Nat → Int32) : Nat → Nat → Int32
  | 0 => fun _ => 0
  | n + 1 => fun c => E (qv_n E n) c
/-- E looks at the cells that D names alone -/
def qv_L (D : Nat → Nat → Bool) (E : (Nat → Int32) → Nat → Int32) : Prop := ∀ (V V' : Nat → Int32) (c : Nat), c < 36 → (∀ d, d < 36 → D c d = true → V d = V' d) → E V c = E V' c
theorem qv_st {D : Nat → Nat → Bool} {E : (Nat → Int32) → Nat → Int32} (hE : qv_L D E) : ∀ (r c : Nat), c < 36 → qf_c D c = false → qf_r D c ≤ r → ∀ n m, qf_r D c < n → qf_r D c < m → qv_n E n c = qv_n E m c := by
  intro r
  induction r with
  | zero =>
    intro c h36 hc hr n m hn hm
    obtain ⟨n, rfl⟩ : ∃ n', n = n' + 1 := ⟨n - 1, by omega⟩
    obtain ⟨m, rfl⟩ : ∃ m', m = m' + 1 := ⟨m - 1, by omega⟩
    refine hE _ _ c h36 (fun d hd h => ?_)
    have := qf_rl hd hc h
    omega
  | succ r ih =>
    intro c h36 hc hr n m hn hm
    obtain ⟨n, rfl⟩ : ∃ n', n = n' + 1 := ⟨n - 1, by omega⟩
    obtain ⟨m, rfl⟩ : ∃ m', m = m' + 1 := ⟨m - 1, by omega⟩
    refine hE _ _ c h36 (fun d hd h => ?_)
    have := qf_rl hd hc h
    exact ih d hd (qf_dn hd hc h) (by omega) n m (by omega) (by omega)
def qv_V (E : (Nat → Int32) → Nat → Int32) : Nat → Int32 := qv_n E 36
theorem qv_fx {D : Nat → Nat → Bool} {E : (Nat → Int32) → Nat → Int32} (hE : qv_L D E) {c : Nat} (h36 : c < 36) (hc : qf_c D c = false) : qv_V E c = E (qv_V E) c :=
  qv_st hE _ c h36 hc (Nat.le_refl _) 36 37 (qf_rb h36 hc) (by have := qf_rb h36 hc; omega)
theorem qv_un {D : Nat → Nat → Bool} {E : (Nat → Int32) → Nat → Int32} (hE : qv_L D E) {V : Nat → Int32} (hV : ∀ c, c < 36 → qf_c D c = false → V c = E V c) : ∀ (r c : Nat), c < 36 → qf_c D c = false → qf_r D c ≤ r → V c = qv_V E c := by
  intro r
  induction r with
  | zero =>
    intro c h36 hc hr
    rw [hV c h36 hc, qv_fx hE h36 hc]
    refine hE _ _ c h36 (fun d hd h => ?_)
    have := qf_rl hd hc h
    omega
  | succ r ih =>
    intro c h36 hc hr
    rw [hV c h36 hc, qv_fx hE h36 hc]
    refine hE _ _ c h36 (fun d hd h => ?_)
    have := qf_rl hd hc h
    exact ih d hd (qf_dn hd hc h) (by omega)
/-- Y's passes: after pass p and the cells below j of the next -/
def qy_I (D : Nat → Nat → Bool) (E : (Nat → Int32) → Nat → Int32) (p j : Nat) (V : Nat → Int32) : Prop :=
  ∀ c, c < 36 → qf_c D c = false → (qf_r D c < p ∨ (qf_r D c ≤ p ∧ c < j)) → V c = qv_V E c
theorem qy_0 {D : Nat → Nat → Bool} {E : (Nat → Int32) → Nat → Int32} {V : Nat → Int32} : qy_I D E 0 0 V := fun c _ _ h => by omega
theorem qy_s {D : Nat → Nat → Bool} {E : (Nat → Int32) → Nat → Int32} (hE : qv_L D E) {p j : Nat} {V : Nat → Int32} (h : qy_I D E p j V) (hj : j < 36) {x : Int32} (hx : qf_c D j = false → x = E V j) : qy_I D E p (j + 1) (upd V j x) := by
  intro c h36 hc hr
  by_cases e : c = j
  · subst e
    rw [pk_us, hx hc, qv_fx hE h36 hc]
    refine hE _ _ c h36 (fun d hd h3 => ?_)
    have := qf_rl hd hc h3
    exact h d hd (qf_dn hd hc h3) (by omega)
  · rw [pk_un e]
    exact h c h36 hc (by omega)
theorem qy_p {D : Nat → Nat → Bool} {E : (Nat → Int32) → Nat → Int32} {p : Nat} {V : Nat → Int32} (h : qy_I D E p 36 V) : qy_I D E (p + 1) 0 V :=
  fun c h36 hc hr => h c h36 hc (by omega)
theorem qy_e {D : Nat → Nat → Bool} {E : (Nat → Int32) → Nat → Int32} {p : Nat} {V : Nat → Int32} (h : qy_I D E p 0 V) (hp : 36 ≤ p) {c : Nat} (h36 : c < 36) (hc : qf_c D c = false) : V c = qv_V E c :=
  h c h36 hc (Or.inl (by have := qf_rb h36 hc; omega))
/-- X's passes: the done set N is closed, holds the right values, and grows by rank -/
def qx_I (D : Nat → Nat → Bool) (p j : Nat) (N : Nat → Bool) : Prop :=
  (∀ c, c < 36 → N c = true → ∀ d, d < 36 → D c d = true → N d = true) ∧ (∀ c, c < 36 → qf_c D c = false → (qf_r D c < p ∨ (qf_r D c ≤ p ∧ c < j)) → N c = true)
def qx_V (D : Nat → Nat → Bool) (E : (Nat → Int32) → Nat → Int32) (N : Nat → Bool) (V : Nat → Int32) : Prop := ∀ c, c < 36 → N c = true → qf_c D c = false → V c = qv_V E c
theorem qx_0 {D : Nat → Nat → Bool} : qx_I D 0 0 (fun _ => false) := ⟨fun _ _ h => (nomatch h), fun c _ _ h => by omega⟩
theorem qx_V0 {D : Nat → Nat → Bool} {E : (Nat → Int32) → Nat → Int32} {V : Nat → Int32} : qx_V D E (fun _ => false) V := fun _ _ h => (nomatch h)
theorem qx_p {D : Nat → Nat → Bool} {p : Nat} {N : Nat → Bool} (h : qx_I D p 36 N) : qx_I D (p + 1) 0 N := ⟨h.1, fun c h36 hc hr => h.2 c h36 hc (by omega)⟩
theorem qx_done {D : Nat → Nat → Bool} {p j : Nat} {N : Nat → Bool} (h : qx_I D p j N) (hN : N j = true) : qx_I D p (j + 1) N := ⟨h.1, fun c h36 hc hr => by
  by_cases e : c = j
  · rw [e]; exact hN
  · exact h.2 c h36 hc (by omega)⟩
theorem qx_wait {D : Nat → Nat → Bool} {p j : Nat} {N : Nat → Bool} (h : qx_I D p j N) (hw : ¬ ∀ d, d < 36 → D j d = true → N d = true) : qx_I D p (j + 1) N := ⟨h.1, fun c h36 hc hr => by
  by_cases e : c = j
  · subst e
    by_cases hr2 : qf_r D c < p
    · exact h.2 c h36 hc (Or.inl hr2)
    · exfalso
      apply hw
      intro d hd h3
      have := qf_rl hd hc h3
      exact h.2 d hd (qf_dn hd hc h3) (by omega)
  · exact h.2 c h36 hc (by omega)⟩
theorem qx_put {D : Nat → Nat → Bool} {p j : Nat} {N : Nat → Bool} (h : qx_I D p j N) (hw : ∀ d, d < 36 → D j d = true → N d = true) : qx_I D p (j + 1) (fun i => N i || decide (i = j)) := by
  refine ⟨fun c h36 hN d hd hD => ?_, fun c h36 hc hr => ?_⟩
  · show (N d || decide (d = j)) = true
    have hN2 : N c = true ∨ c = j := by
      have t : (N c || decide (c = j)) = true := hN
      rw [Bool.or_eq_true, decide_eq_true_eq] at t
      exact t
    rcases hN2 with h3 | h3
    · rw [h.1 c h36 h3 d hd hD]; rfl
    · subst h3
      rw [hw d hd hD]; rfl
  · show (N c || decide (c = j)) = true
    by_cases e : c = j
    · rw [decide_eq_true e, Bool.or_true]
    · rw [h.2 c h36 hc (by omega)]; rfl
theorem qx_Vput {D : Nat → Nat → Bool} {E : (Nat → Int32) → Nat → Int32} (hE : qv_L D E) {j : Nat} {N : Nat → Bool} {V V' : Nat → Int32} (h : qx_V D E N V) (hj : j < 36) (hw : ∀ d, d < 36 → D j d = true → N d = true) (h0 : N j = false) (hx : qf_c D j = false → V' j = E V j) (hk : ∀ c, c < 36 → c ≠ j → V' c = V c) : qx_V D E (fun i => N i || decide (i = j)) V' := by
  intro c h36 hN hc
  by_cases e : c = j
  · subst e
    rw [hx hc, qv_fx hE h36 hc]
    refine hE _ _ c h36 (fun d hd h3 => ?_)
    exact h d hd (hw d hd h3) (qf_dn hd hc h3)
  · rw [hk c h36 e]
    have t : (N c || decide (c = j)) = true := hN
    rw [decide_eq_false e, Bool.or_false] at t
    exact h c h36 t hc
theorem qx_e {D : Nat → Nat → Bool} {E : (Nat → Int32) → Nat → Int32} {p : Nat} {N : Nat → Bool} {V : Nat → Int32} (h : qx_I D p 0 N) (hV : qx_V D E N V) (hp : 36 ≤ p) {c : Nat} (h36 : c < 36) (hc : qf_c D c = false) : V c = qv_V E c :=
  hV c h36 (h.2 c h36 hc (Or.inl (by have := qf_rb h36 hc; omega))) hc
end
section
/-! the sheet's pure picture: contents K A B C, owners W (0: none, s + 1: the spread at s), direct sets, states, values -/
def qp_ins (c a b : Nat) : Bool := decide (a / 6 ≤ c / 6 ∧ c / 6 ≤ b / 6 ∧ a % 6 ≤ c % 6 ∧ c % 6 ≤ b % 6)
theorem qp_insI {c a b : Nat} : qp_ins c a b = true ↔ (a / 6 ≤ c / 6 ∧ c / 6 ≤ b / 6 ∧ a % 6 ≤ c % 6 ∧ c % 6 ≤ b % 6) := decide_eq_true_iff
def qp_fit (A B : Nat → Nat) (s : Nat) : Bool := decide (s / 6 + (B s / 6 - A s / 6) < 6 ∧ s % 6 + (B s % 6 - A s % 6) < 6)
theorem qp_fitI {A B : Nat → Nat} {s : Nat} : qp_fit A B s = true ↔ (s / 6 + (B s / 6 - A s / 6) < 6 ∧ s % 6 + (B s % 6 - A s % 6) < 6) := decide_eq_true_iff
def qp_end (A B : Nat → Nat) (s : Nat) : Nat := s + 6 * (B s / 6 - A s / 6) + (B s % 6 - A s % 6)
theorem qp_endI {A B : Nat → Nat} {s : Nat} (h : qp_fit A B s = true) : qp_end A B s / 6 = s / 6 + (B s / 6 - A s / 6) ∧ qp_end A B s % 6 = s % 6 + (B s % 6 - A s % 6) ∧ qp_end A B s < 36 := by
  rw [qp_fitI] at h
  unfold qp_end
  generalize B s / 6 - A s / 6 = y at *
  generalize B s % 6 - A s % 6 = z at *
  omega
/-- a cell of the area bars the spread at s -/
def qp_bar (K W : Nat → Nat) (s e c : Nat) : Bool := qp_ins c s e && ((decide (c ≠ s) && decide (K c ≠ 0)) || decide (W c ≠ 0))
def qp_can (K A B W : Nat → Nat) (s : Nat) : Bool := qp_fit A B s && !qe_x (qp_bar K W s (qp_end A B s)) 36
theorem qp_canI {K A B W : Nat → Nat} {s : Nat} (h : qp_can K A B W s = true) : qp_fit A B s = true ∧ ∀ c, c < 36 → qp_ins c s (qp_end A B s) = true → (c = s ∨ K c = 0) ∧ W c = 0 := by
  unfold qp_can at h
  rw [Bool.and_eq_true, Bool.not_eq_true', qe_f] at h
  refine ⟨h.1, fun c hc hi => ?_⟩
  have t := h.2 c hc
  unfold qp_bar at t
  rw [hi, Bool.true_and, Bool.or_eq_false_iff, Bool.and_eq_false_iff, decide_eq_false_iff_not, decide_eq_false_iff_not, decide_eq_false_iff_not] at t
  omega
def qp_step (K A B : Nat → Nat) (s : Nat) (W : Nat → Nat) : Nat → Nat :=
  if K s = 5 ∧ qp_can K A B W s = true then (fun c => if qp_ins c s (qp_end A B s) = true then s + 1 else W c) else W
def qp_ow (K A B : Nat → Nat) : Nat → Nat → Nat
  | 0 => fun _ => 0
  | n + 1 => qp_step K A B n (qp_ow K A B n)
theorem qp_ow_le (K A B : Nat → Nat) : ∀ n c, qp_ow K A B n c ≤ n
  | 0, _ => Nat.le_refl _
  | n + 1, c => by
    have h := qp_ow_le K A B n c
    show qp_step K A B n (qp_ow K A B n) c ≤ n + 1
    unfold qp_step
    split
    · show (if qp_ins c n (qp_end A B n) = true then n + 1 else qp_ow K A B n c) ≤ n + 1
      split <;> omega
    · omega
/-- good contents -/
def qp_G (K A B C : Nat → Nat) : Prop := ∀ j, j < 36 → K j ≤ 6 ∧ A j < 36 ∧ B j < 36 ∧ C j < 36 ∧ (K j = 3 ∨ K j = 5 → A j / 6 ≤ B j / 6 ∧ A j % 6 ≤ B j % 6)
theorem qp_inv (K A B : Nat → Nat) : ∀ n c, c < 36 → qp_ow K A B n c = 0 ∨ ∃ s, s < n ∧ qp_ow K A B n c = s + 1 ∧ K s = 5 ∧ qp_fit A B s = true ∧ qp_ins c s (qp_end A B s) = true ∧ (c = s ∨ K c = 0)
  | 0, _, _ => Or.inl rfl
  | n + 1, c, hc => by
    have ih := qp_inv K A B n c hc
    have up : qp_ow K A B n c = 0 ∨ ∃ s, s < n + 1 ∧ qp_ow K A B n c = s + 1 ∧ K s = 5 ∧ qp_fit A B s = true ∧ qp_ins c s (qp_end A B s) = true ∧ (c = s ∨ K c = 0) := by
      rcases ih with h | ⟨s, hs, h⟩
      · exact Or.inl h
      · exact Or.inr ⟨s, by omega, h⟩
    show qp_step K A B n (qp_ow K A B n) c = 0 ∨ ∃ s, s < n + 1 ∧ qp_step K A B n (qp_ow K A B n) c = s + 1 ∧ _
    unfold qp_step
    by_cases hk : K n = 5 ∧ qp_can K A B (qp_ow K A B n) n = true
    · rw [if_pos hk]
      by_cases hi : qp_ins c n (qp_end A B n) = true
      · have g := qp_canI hk.2
        refine Or.inr ⟨n, by omega, if_pos hi, hk.1, g.1, hi, (g.2 c hc hi).1⟩
      · have e : (if qp_ins c n (qp_end A B n) = true then n + 1 else qp_ow K A B n c) = qp_ow K A B n c := if_neg hi
        show (if qp_ins c n (qp_end A B n) = true then n + 1 else qp_ow K A B n c) = 0 ∨ ∃ s, s < n + 1 ∧ (if qp_ins c n (qp_end A B n) = true then n + 1 else qp_ow K A B n c) = s + 1 ∧ _
        rw [e]
        exact up
    · rw [if_neg hk]
      exact up
/-- the owners, at the end -/
def qp_W (K A B : Nat → Nat) : Nat → Nat := qp_ow K A B 36
def qp_sh (A W : Nat → Nat) (c : Nat) : Nat := A (W c - 1) + (c - (W c - 1))
/-- what is known of an owned cell -/
theorem qp_own {K A B C : Nat → Nat} (G : qp_G K A B C) {n c : Nat} (hn : n ≤ 36) (hc : c < 36) (h : qp_ow K A B n c ≠ 0) : ∃ s, s < n ∧ qp_ow K A B n c = s + 1 ∧ K s = 5 ∧ (c = s ∨ K c = 0) ∧ qp_ins c s (qp_end A B s) = true ∧ qp_fit A B s = true ∧ qp_sh A (qp_ow K A B n) c = A s + (c - s) ∧ A s + (c - s) < 36 ∧ (A s + (c - s)) / 6 = A s / 6 + (c / 6 - s / 6) ∧ (A s + (c - s)) % 6 = A s % 6 + (c % 6 - s % 6) ∧ s / 6 ≤ c / 6 ∧ s % 6 ≤ c % 6 ∧ A s < 36 := by
  rcases qp_inv K A B n c hc with h0 | ⟨s, hs, h1, h2, h3, h4, h5⟩
  · exact absurd h0 h
  · have g := G s (by omega)
    have e := qp_endI h3
    have i := qp_insI.mp h4
    have g2 := g.2.2.2.2 (Or.inr h2)
    refine ⟨s, hs, h1, h2, h5, h4, h3, ?_, ?_⟩
    · unfold qp_sh
      rw [h1, Nat.add_sub_cancel]
    · have gA := g.2.1
      have gB := g.2.2.1
      rw [e.1, e.2.1] at i
      generalize A s = a at *
      generalize B s = b at *
      omega
def qp_D (K A B C W : Nat → Nat) (c d : Nat) : Bool :=
  if W c ≠ 0 then decide (d = qp_sh A W c) else if K c = 2 then decide (d = A c) || decide (d = B c) else if K c = 3 then qp_ins d (A c) (B c) else if K c = 4 then decide (d = A c) || decide (d = B c) || decide (d = C c) else false
theorem qp_D_sh {K A B C W : Nat → Nat} {c : Nat} (h : W c ≠ 0) (d : Nat) : qp_D K A B C W c d = decide (d = qp_sh A W c) := if_pos h
theorem qp_D_2 {K A B C W : Nat → Nat} {c : Nat} (h : W c = 0) (k : K c = 2) (d : Nat) : qp_D K A B C W c d = (decide (d = A c) || decide (d = B c)) := by
  unfold qp_D; rw [if_neg (by omega), if_pos k]
theorem qp_D_3 {K A B C W : Nat → Nat} {c : Nat} (h : W c = 0) (k : K c = 3) (d : Nat) : qp_D K A B C W c d = qp_ins d (A c) (B c) := by
  unfold qp_D; rw [if_neg (by omega), if_neg (by omega), if_pos k]
theorem qp_D_4 {K A B C W : Nat → Nat} {c : Nat} (h : W c = 0) (k : K c = 4) (d : Nat) : qp_D K A B C W c d = (decide (d = A c) || decide (d = B c) || decide (d = C c)) := by
  unfold qp_D; rw [if_neg (by omega), if_neg (by omega), if_neg (by omega), if_pos k]
theorem qp_D_n {K A B C W : Nat → Nat} {c : Nat} (h : W c = 0) (k : K c ≠ 2 ∧ K c ≠ 3 ∧ K c ≠ 4) (d : Nat) : qp_D K A B C W c d = false := by
  unfold qp_D; rw [if_neg (by omega), if_neg k.1, if_neg k.2.1, if_neg k.2.2]
/-- owner and shown as the arrays hold them -/
def qp_oi (w : Nat) : Int32 := if w = 0 then -2 else nI (w - 1)
def qp_si (A W : Nat → Nat) (c : Nat) : Int32 := if W c = 0 then -2 else nI (qp_sh A W c)
theorem qp_oi0 : qp_oi 0 = -2 := rfl
theorem qp_oi1 (s : Nat) : qp_oi (s + 1) = nI s := rfl
theorem qp_oiI {w : Nat} (h : w ≤ 36) : qp_oi w = -2 ↔ w = 0 := by
  unfold qp_oi
  by_cases e : w = 0
  · rw [if_pos e]; exact ⟨fun _ => e, fun _ => rfl⟩
  · rw [if_neg e]
    exact ⟨fun z => absurd z (qn_m2 (by omega)), fun z => absurd z e⟩
theorem qp_oiL {w : Nat} (h : w ≤ 36) : qp_oi w < 0 ↔ w = 0 := by
  unfold qp_oi
  by_cases e : w = 0
  · rw [if_pos e]; exact ⟨fun _ => e, fun _ => by decide⟩
  · rw [if_neg e]
    exact ⟨fun z => absurd z (nI_pos (by omega)), fun z => absurd z e⟩
theorem qp_oiP {w : Nat} (h : w ≤ 36) : 0 ≤ qp_oi w ↔ w ≠ 0 := by
  unfold qp_oi
  by_cases e : w = 0
  · rw [if_pos e]; exact ⟨fun z => absurd z (by decide), fun z => absurd e z⟩
  · rw [if_neg e]
    exact ⟨fun _ => e, fun _ => nI_pos' (by omega)⟩
theorem qp_oiE {w c : Nat} (h : w ≤ 36) (hc : c < 36) : qp_oi w = nI c ↔ w = c + 1 := by
  unfold qp_oi
  by_cases e : w = 0
  · rw [if_pos e]; exact ⟨fun z => absurd z.symm (qn_m2 (by omega)), fun z => by omega⟩
  · rw [if_neg e, qn_eq (by omega) (by omega)]; omega
/-- spoilt, states -/
def qp_sp (K W : Nat → Nat) (c : Nat) : Bool := decide (K c = 6 ∨ (K c = 5 ∧ W c = 0))
theorem qp_spI {K W : Nat → Nat} {c : Nat} : qp_sp K W c = true ↔ (K c = 6 ∨ (K c = 5 ∧ W c = 0)) := decide_eq_true_iff
def qp_bad (D : Nat → Nat → Bool) (K W : Nat → Nat) (c : Nat) : Bool := qp_sp K W c || qe_x (fun d => qf_F D c d && qp_sp K W d) 36
def qp_st (D : Nat → Nat → Bool) (K W : Nat → Nat) (c : Nat) : Nat :=
  if qf_c D c = true then 2 else if qp_bad D K W c = true then 3 else if K c = 0 ∧ W c = 0 then 0 else 1
theorem qp_st_le (D : Nat → Nat → Bool) (K W : Nat → Nat) (c : Nat) : qp_st D K W c ≤ 3 := by
  unfold qp_st
  split
  · omega
  · split
    · omega
    · split <;> omega
theorem qp_st2 {D : Nat → Nat → Bool} {K W : Nat → Nat} {c : Nat} : qp_st D K W c = 2 ↔ qf_c D c = true := by
  unfold qp_st
  by_cases h : qf_c D c = true
  · rw [if_pos h]; exact ⟨fun _ => h, fun _ => rfl⟩
  · rw [if_neg h]
    refine ⟨fun z => ?_, fun z => absurd z h⟩
    split at z
    · omega
    · split at z <;> omega
/-- at a valued cell: an owned one, or a kind that has a value -/
theorem qp_st1 {D : Nat → Nat → Bool} {K W : Nat → Nat} {c : Nat} (hK : K c ≤ 6) (h : qp_st D K W c = 1) : W c ≠ 0 ∨ K c = 1 ∨ K c = 2 ∨ K c = 3 ∨ K c = 4 := by
  by_cases h1 : qf_c D c = true
  · rw [qp_st2.mpr h1] at h; omega
  · unfold qp_st at h
    rw [if_neg h1] at h
    by_cases h2 : qp_bad D K W c = true
    · rw [if_pos h2] at h; omega
    · rw [if_neg h2] at h
      by_cases h3 : K c = 0 ∧ W c = 0
      · rw [if_pos h3] at h; omega
      · have h4 : ¬ qp_sp K W c = true := by
          intro z
          apply h2
          unfold qp_bad
          rw [z]; rfl
        rw [qp_spI] at h4
        omega
/-- sums and maxima as the loops run -/
def qs_m (P : Nat → Bool) (V : Nat → Int32) : Nat → Int32
  | 0 => 0
  | n + 1 => if P n = true then qs_m P V n + V n else qs_m P V n
def qd_m (P : Nat → Bool) (V : Nat → Int32) : Nat → Int32
  | 0 => 0
  | n + 1 => if P n = true then (if V n ≤ qd_m P V n then qd_m P V n else V n) else qd_m P V n
theorem qs_c {P Q : Nat → Bool} {V V' : Nat → Int32} : ∀ {n : Nat}, (∀ i, i < n → P i = Q i) → (∀ i, i < n → P i = true → V i = V' i) → qs_m P V n = qs_m Q V' n
  | 0, _, _ => rfl
  | n + 1, h, g => by
    have ih := qs_c (n := n) (fun i hi => h i (by omega)) (fun i hi => g i (by omega))
    show (if P n = true then qs_m P V n + V n else qs_m P V n) = (if Q n = true then qs_m Q V' n + V' n else qs_m Q V' n)
    rw [ih, ← h n (by omega)]
    by_cases p : P n = true
    · rw [if_pos p, if_pos p, g n (by omega) p]
    · rw [if_neg p, if_neg p]
theorem qd_c {P Q : Nat → Bool} {V V' : Nat → Int32} : ∀ {n : Nat}, (∀ i, i < n → P i = Q i) → (∀ i, i < n → P i = true → V i = V' i) → qd_m P V n = qd_m Q V' n
  | 0, _, _ => rfl
  | n + 1, h, g => by
    have ih := qd_c (n := n) (fun i hi => h i (by omega)) (fun i hi => g i (by omega))
    show (if P n = true then (if V n ≤ qd_m P V n then qd_m P V n else V n) else qd_m P V n) = (if Q n = true then (if V' n ≤ qd_m Q V' n then qd_m Q V' n else V' n) else qd_m Q V' n)
    rw [ih, ← h n (by omega)]
    by_cases p : P n = true
    · rw [if_pos p, if_pos p, g n (by omega) p]
    · rw [if_neg p, if_neg p]
def qk_f (o a b : Int32) : Int32 := if o = 0 then a + b else if o = 1 then a - b else if o = 2 then a * b else if o = 3 then (if b ≤ a then b else a) else (if a ≤ b then b else a)
/-- what a valued cell is worth -/
def qp_ev (K A B C W : Nat → Nat) (N O : Nat → Int32) (V : Nat → Int32) (c : Nat) : Int32 :=
  if W c ≠ 0 then V (qp_sh A W c) else if K c = 1 then N c else if K c = 2 then qk_f (O c) (V (A c)) (V (B c)) else if K c = 4 then (if V (A c) ≤ 0 then V (C c) else V (B c)) else if K c = 3 then qs_m (fun d => qp_ins d (A c) (B c)) V 36 else 0
def qp_E (D : Nat → Nat → Bool) (K A B C W : Nat → Nat) (N O : Nat → Int32) (V : Nat → Int32) (c : Nat) : Int32 := if qp_st D K W c = 1 then qp_ev K A B C W N O V c else 0
def qp_P (D : Nat → Nat → Bool) (V : Nat → Int32) (c : Nat) : Int32 := 1 + qd_m (D c) V 36
theorem qp_PL (D : Nat → Nat → Bool) : qv_L D (qp_P D) := by
  intro V V' c _ h
  unfold qp_P
  rw [qd_c (fun _ _ => rfl) h]
theorem qp_evL {K A B C : Nat → Nat} (G : qp_G K A B C) {N O V V' : Nat → Int32} {c : Nat} (hc : c < 36) (h : ∀ d, d < 36 → qp_D K A B C (qp_W K A B) c d = true → V d = V' d) : qp_ev K A B C (qp_W K A B) N O V c = qp_ev K A B C (qp_W K A B) N O V' c := by
  have g := G c hc
  unfold qp_ev
  by_cases hW : qp_W K A B c ≠ 0
  · rw [if_pos hW, if_pos hW]
    obtain ⟨s, hs, e1, e2, e3, e4, e5, e6, e7, _⟩ := qp_own G (Nat.le_refl 36) hc hW
    have e6' : qp_sh A (qp_W K A B) c = A s + (c - s) := e6
    refine h _ (by rw [e6']; exact e7) ?_
    rw [qp_D_sh hW]
    exact decide_eq_true rfl
  · rw [if_neg hW, if_neg hW]
    have hW0 : qp_W K A B c = 0 := by omega
    by_cases k1 : K c = 1
    · rw [if_pos k1, if_pos k1]
    · rw [if_neg k1, if_neg k1]
      by_cases k2 : K c = 2
      · rw [if_pos k2, if_pos k2, h (A c) g.2.1 (by rw [qp_D_2 hW0 k2, decide_eq_true rfl]; rfl), h (B c) g.2.2.1 (by rw [qp_D_2 hW0 k2, decide_eq_true (rfl : B c = B c), Bool.or_true])]
      · rw [if_neg k2, if_neg k2]
        by_cases k4 : K c = 4
        · rw [if_pos k4, if_pos k4, h (A c) g.2.1 (by rw [qp_D_4 hW0 k4, decide_eq_true (rfl : A c = A c)]; rfl), h (B c) g.2.2.1 (by rw [qp_D_4 hW0 k4, decide_eq_true (rfl : B c = B c), Bool.or_true]; rfl), h (C c) g.2.2.2.1 (by rw [qp_D_4 hW0 k4, decide_eq_true (rfl : C c = C c), Bool.or_true])]
        · rw [if_neg k4, if_neg k4]
          by_cases k3 : K c = 3
          · rw [if_pos k3, if_pos k3]
            refine qs_c (fun _ _ => rfl) (fun i hi p => h i hi ?_)
            rw [qp_D_3 hW0 k3]
            exact p
          · rw [if_neg k3, if_neg k3]
theorem qp_EL {K A B C : Nat → Nat} (G : qp_G K A B C) (N O : Nat → Int32) : qv_L (qp_D K A B C (qp_W K A B)) (qp_E (qp_D K A B C (qp_W K A B)) K A B C (qp_W K A B) N O) := by
  intro V V' c hc h
  unfold qp_E
  by_cases hs : qp_st (qp_D K A B C (qp_W K A B)) K (qp_W K A B) c = 1
  · rw [if_pos hs, if_pos hs, qp_evL G hc h]
  · rw [if_neg hs, if_neg hs]
end
section
/-! the small walks: moved, inside, good cells, good rectangles, combine, height, width, cellsBetween -/
theorem qn_m6' {a : Nat} (h : a < 2000) : nI a - nI (a / 6) * 6 = nI (a % 6) := by
  have e := qn_m6 h
  rw [qn_d6 h] at e
  exact e
theorem qn_m36' {a : Nat} (h : a < 2000) : nI a - nI (a / 36) * 36 = nI (a % 36) := by
  have e := qn_m36 h
  rw [qn_d36 h] at e
  exact e
theorem qn_t5 : (5 : Int32).toInt = 5 := by decide
theorem qn_t6 : (6 : Int32).toInt = 6 := by decide
theorem qn_t0 : (0 : Int32).toInt = 0 := by decide
theorem qn_56 (x : Int32) : 5 < x ↔ 6 ≤ x := by
  rw [Int32.lt_iff_toInt_lt, Int32.le_iff_toInt_le, qn_t5, qn_t6]; omega
theorem qn_65 (x : Int32) : x ≤ 5 ↔ x < 6 := by
  rw [Int32.lt_iff_toInt_lt, Int32.le_iff_toInt_le, qn_t5, qn_t6]; omega
theorem qn_c36 (x : Int32) : x ≤ 35 ↔ ¬ 36 ≤ x := by
  rw [Int32.le_iff_toInt_le, Int32.le_iff_toInt_le, show (35 : Int32).toInt = 35 by decide, show (36 : Int32).toInt = 36 by decide]; omega
theorem qn_c1296 (x : Int32) : x ≤ 1295 ↔ x < 1296 := by
  rw [Int32.le_iff_toInt_le, Int32.lt_iff_toInt_lt, show (1295 : Int32).toInt = 1295 by decide, show (1296 : Int32).toInt = 1296 by decide]; omega
theorem qn_c5 (x : Int32) : x ≤ 4 ↔ x < 5 := by
  rw [Int32.le_iff_toInt_le, Int32.lt_iff_toInt_lt, show (4 : Int32).toInt = 4 by decide, qn_t5]; omega
theorem qn_c4 (x : Int32) : x ≤ 3 ↔ x < 4 := by
  rw [Int32.le_iff_toInt_le, Int32.lt_iff_toInt_lt, show (4 : Int32).toInt = 4 by decide, show (3 : Int32).toInt = 3 by decide]; omega
def qm_v (p0 p1 p2 : Int32) : Int32 := if p0 / 6 + p1 < 0 then -1 else if 6 ≤ p0 / 6 + p1 then -1 else if (p0 - p0 / 6 * 6) + p2 < 0 then -1 else if (p0 - p0 / 6 * 6) + p2 < 6 then (6 * (p0 / 6 + p1)) + ((p0 - p0 / 6 * 6) + p2) else -1
theorem qm_X {post : Int32 → Prop} {p0 p1 p2 : Int32} (h : post (qm_v p0 p1 p2)) : wpX_moved post p0 p1 p2 := by
  unfold qm_v at h
  refine ⟨qn_6, nm_e ⟨qn_6, nm_e ?_⟩⟩
  refine br_c (fun c => by rw [if_pos c] at h; exact h) (fun c => ?_)
  rw [if_neg c] at h
  refine br_c (fun c => by rw [if_pos c] at h; exact h) (fun c => ?_)
  rw [if_neg c] at h
  refine br_c (fun c => by rw [if_pos c] at h; exact h) (fun c => ?_)
  rw [if_neg c] at h
  refine br_c (fun c => by rw [if_pos c] at h; exact h) (fun c => ?_)
  rw [if_neg c] at h
  exact h
theorem qm_Y {post : Int32 → Prop} {v : SY} {p0 p1 p2 : Int32} (h : post (qm_v p0 p1 p2)) : wpY_moved post v p0 p1 p2 := by
  obtain ⟨ks, os, oa, ob, oc, fr, di, fa, wk, nx⟩ := v
  unfold qm_v at h
  refine ⟨qn_6, nm_e ⟨qn_6, nm_e ?_⟩⟩
  refine br_c (fun c => by rw [if_pos c] at h; exact h) (fun c => ?_)
  rw [if_neg c] at h
  refine ek_if (qn_56 _) (fun c => by rw [if_pos c] at h; exact h) (fun c => ?_)
  rw [if_neg c] at h
  refine br_c (fun c => by rw [if_pos c] at h; exact h) (fun c => ?_)
  rw [if_neg c] at h
  refine ek_if (qn_65 _) (fun c => by rw [if_pos c] at h; exact h) (fun c => ?_)
  rw [if_neg c] at h
  exact h
theorem qm_ad {a : Nat} {p : Int32} {i : Int} (ha : a < 6) (hp : p.toInt = i) (h1 : -6 ≤ i) (h2 : i ≤ 6) : (nI a + p).toInt = a + i := by
  rw [Int32.toInt_add, nI_toInt (by omega), hp]
  exact Int.bmod_eq_of_le (by omega) (by omega)
theorem qm_ok {a : Nat} {p1 p2 : Int32} {i j : Int} (ha : a < 36) (e1 : p1.toInt = i) (e2 : p2.toInt = j) (hi : -6 ≤ i ∧ i ≤ 6) (hj : -6 ≤ j ∧ j ≤ 6) :
    (∃ b : Nat, b < 36 ∧ qm_v (nI a) p1 p2 = nI b ∧ ((b / 6 : Nat) : Int) = (a / 6 : Nat) + i ∧ ((b % 6 : Nat) : Int) = (a % 6 : Nat) + j) ∨ (qm_v (nI a) p1 p2 = -1 ∧ ¬ (0 ≤ ((a / 6 : Nat) : Int) + i ∧ ((a / 6 : Nat) : Int) + i < 6 ∧ 0 ≤ ((a % 6 : Nat) : Int) + j ∧ ((a % 6 : Nat) : Int) + j < 6)) := by
  have h6 : a / 6 < 6 := by omega
  have h7 : a % 6 < 6 := by omega
  have t1 := qm_ad h6 e1 hi.1 hi.2
  have t2 := qm_ad h7 e2 hj.1 hj.2
  unfold qm_v
  rw [qn_d6 (by omega), qn_m6' (by omega)]
  by_cases c1 : nI (a / 6) + p1 < 0
  · rw [if_pos c1]
    rw [Int32.lt_iff_toInt_lt, t1, qn_t0] at c1
    exact Or.inr ⟨rfl, by omega⟩
  · rw [if_neg c1]
    rw [Int32.lt_iff_toInt_lt, t1, qn_t0] at c1
    by_cases c2 : 6 ≤ nI (a / 6) + p1
    · rw [if_pos c2]
      rw [Int32.le_iff_toInt_le, t1, qn_t6] at c2
      exact Or.inr ⟨rfl, by omega⟩
    · rw [if_neg c2]
      rw [Int32.le_iff_toInt_le, t1, qn_t6] at c2
      by_cases c3 : nI (a % 6) + p2 < 0
      · rw [if_pos c3]
        rw [Int32.lt_iff_toInt_lt, t2, qn_t0] at c3
        exact Or.inr ⟨rfl, by omega⟩
      · rw [if_neg c3]
        rw [Int32.lt_iff_toInt_lt, t2, qn_t0] at c3
        by_cases c4 : nI (a % 6) + p2 < 6
        · rw [if_pos c4]
          rw [Int32.lt_iff_toInt_lt, t2, qn_t6] at c4
          obtain ⟨r, hr⟩ : ∃ r : Nat, (r : Int) = (a / 6 : Nat) + i := ⟨(((a / 6 : Nat) : Int) + i).toNat, by omega⟩
          obtain ⟨k, hk⟩ : ∃ k : Nat, (k : Int) = (a % 6 : Nat) + j := ⟨(((a % 6 : Nat) : Int) + j).toNat, by omega⟩
          have u1 : nI (a / 6) + p1 = nI r := Int32.toInt_inj.mp (by rw [t1, nI_toInt (by omega), hr])
          have u2 : nI (a % 6) + p2 = nI k := Int32.toInt_inj.mp (by rw [t2, nI_toInt (by omega), hk])
          rw [u1, u2, qn_6x, nI_add]
          exact Or.inl ⟨6 * r + k, by omega, rfl, by omega, by omega⟩
        · rw [if_neg c4]
          rw [Int32.lt_iff_toInt_lt, t2, qn_t6] at c4
          exact Or.inr ⟨rfl, by omega⟩
theorem qp_insF {c a b : Nat} (h : ¬ (a / 6 ≤ c / 6 ∧ c / 6 ≤ b / 6 ∧ a % 6 ≤ c % 6 ∧ c % 6 ≤ b % 6)) : qp_ins c a b = false := decide_eq_false h
theorem qp_insT {c a b : Nat} (h : a / 6 ≤ c / 6 ∧ c / 6 ≤ b / 6 ∧ a % 6 ≤ c % 6 ∧ c % 6 ≤ b % 6) : qp_ins c a b = true := decide_eq_true h
theorem qi_ins {post : Int32 → Prop} {v : SY} {c a b : Nat} (hc : c < 36) (ha : a < 36) (hb : b < 36) (h0 : qp_ins c a b = false → post 0) (h1 : qp_ins c a b = true → post 1) : wpY_inside post v (nI c) (nI a) (nI b) := by
  obtain ⟨ks, os, oa, ob, oc, fr, di, fa, wk, nx⟩ := v
  unfold wpY_inside
  dsimp only
  rw [qn_d6 (a := c) (by omega), qn_d6 (a := a) (by omega), qn_d6 (a := b) (by omega), qn_m6' (a := c) (by omega), qn_m6' (a := a) (by omega), qn_m6' (a := b) (by omega), qn_lt (a := c / 6) (b := a / 6) (by omega) (by omega), qn_lt (a := b / 6) (b := c / 6) (by omega) (by omega), qn_lt (a := c % 6) (b := a % 6) (by omega) (by omega), qn_lt (a := b % 6) (b := c % 6) (by omega) (by omega)]
  exact ⟨qn_6, qn_6, br_c (fun h => h0 (qp_insF (by omega))) (fun g1 => ⟨qn_6, qn_6, br_c (fun h => h0 (qp_insF (by omega))) (fun g2 => ⟨qn_6, qn_6, br_c (fun h => h0 (qp_insF (by omega))) (fun g3 => ⟨qn_6, qn_6, br_c (fun h => h0 (qp_insF (by omega))) (fun g4 => h1 (qp_insT (by omega)))⟩)⟩)⟩)⟩
theorem qi_insB {P Q : Prop} {v : SY} {c a b : Nat} (hc : c < 36) (ha : a < 36) (hb : b < 36) (h0 : qp_ins c a b = false → P) (h1 : qp_ins c a b = true → Q) : wpY_inside (fun r => (r = 0 → P) ∧ (¬ r = 0 → Q)) v (nI c) (nI a) (nI b) :=
  qi_ins hc ha hb (fun h => br_t rfl (h0 h)) (fun h => br_f (by decide) (h1 h))
/-- good cells -/
def qi_g (x : Int32) : Prop := ∃ c : Nat, c < 36 ∧ x = nI c
theorem qi_n {x : Int32} (h : ¬ qi_g x) : x < 0 ∨ 36 ≤ x := by
  rcases pk_ix x (n := 36) (by decide) with a | a | ⟨j, hj, e⟩
  · exact Or.inl a
  · exact Or.inr a
  · exact absurd ⟨j, hj, e⟩ h
theorem qi_X0 {post : Int32 → Prop} {x : Int32} (h : ¬ qi_g x) (p : post 0) : wpX_isCell post x :=
  br_c (fun _ => p) (fun g => br_t ((qi_n h).resolve_left g) p)
theorem qi_X1 {post : Int32 → Prop} {c : Nat} (hc : c < 36) (p : post 1) : wpX_isCell post (nI c) :=
  br_f (nI_pos (by omega)) (br_f (qn_ge hc) p)
theorem qi_Y0 {post : Int32 → Prop} {v : SY} {x : Int32} (h : ¬ qi_g x) (p : post 1) : wpY_bad post v x := by
  obtain ⟨ks, os, oa, ob, oc, fr, di, fa, wk, nx⟩ := v
  exact br_c (fun _ => p) (fun g => br_f (fun z => (qn_c36 x).mp z ((qi_n h).resolve_left g)) p)
theorem qi_Y1 {post : Int32 → Prop} {v : SY} {c : Nat} (hc : c < 36) (p : post 0) : wpY_bad post v (nI c) := by
  obtain ⟨ks, os, oa, ob, oc, fr, di, fa, wk, nx⟩ := v
  exact br_f (nI_pos (by omega)) (br_t ((qn_c36 _).mpr (qn_ge hc)) p)
/-- good rectangles -/
def qj_q (q : Nat) : Prop := q < 1296 ∧ q / 36 / 6 ≤ q % 36 / 6 ∧ q / 36 % 6 ≤ q % 36 % 6
def qj_g (x : Int32) : Prop := ∃ q : Nat, qj_q q ∧ x = nI q
theorem qj_X0 {post : Int32 → Prop} {x : Int32} (h : ¬ qj_g x) (p : post 0) : wpX_isRectangle post x := by
  refine br_c (fun _ => p) (fun g => br_c (fun g2 => ?_) (fun _ => p))
  obtain ⟨q, hq, rfl⟩ := nI_of g
  have h3 : q < 1296 := by
    have g3 : nI q < nI 1296 := g2
    rw [nI_ltI hq (by decide)] at g3
    exact g3
  refine ⟨qn_36, nm_r (qn_d36 (by omega)) ⟨qn_36, nm_r (qn_m36 (by omega)) ⟨qn_6, qn_6, ?_⟩⟩⟩
  rw [qn_d6 (by omega), qn_d6 (by omega), qn_m6' (by omega), qn_m6' (by omega), qn_lt (by omega) (by omega), qn_lt (by omega) (by omega)]
  exact br_c (fun _ => p) (fun g4 => ⟨qn_6, qn_6, br_c (fun _ => p) (fun g5 => absurd ⟨q, ⟨h3, by omega, by omega⟩, rfl⟩ h)⟩)
theorem qj_X1 {post : Int32 → Prop} {q : Nat} (h : qj_q q) (p : post 1) : wpX_isRectangle post (nI q) := by
  obtain ⟨h3, h4, h5⟩ := h
  refine br_f (nI_pos (by omega)) (br_t (nI_lt (b := 1296) h3 (by decide)) ?_)
  refine ⟨qn_36, nm_r (qn_d36 (by omega)) ⟨qn_36, nm_r (qn_m36 (by omega)) ⟨qn_6, qn_6, ?_⟩⟩⟩
  rw [qn_d6 (by omega), qn_d6 (by omega), qn_m6' (by omega), qn_m6' (by omega), qn_lt (by omega) (by omega), qn_lt (by omega) (by omega)]
  exact br_f (by omega) ⟨qn_6, qn_6, br_f (by omega) p⟩
theorem qj_Y0 {post : Int32 → Prop} {v : SY} {x : Int32} (h : ¬ qj_g x) (p : post 1) : wpY_badRect post v x := by
  obtain ⟨ks, os, oa, ob, oc, fr, di, fa, wk, nx⟩ := v
  refine br_c (fun _ => p) (fun g => ek_if (qn_c1296 x) (fun g2 => ?_) (fun _ => p))
  obtain ⟨q, hq, rfl⟩ := nI_of g
  have h3 : q < 1296 := by
    have g3 : nI q < nI 1296 := g2
    rw [nI_ltI hq (by decide)] at g3
    exact g3
  refine ⟨qn_36, nm_r (qn_d36 (by omega)) ⟨qn_36, nm_r (qn_m36 (by omega)) ⟨qn_6, qn_6, ?_⟩⟩⟩
  rw [qn_d6 (by omega), qn_d6 (by omega), qn_m6' (by omega), qn_m6' (by omega), qn_lt (by omega) (by omega), qn_leI (by omega) (by omega)]
  exact br_c (fun _ => p) (fun g4 => ⟨qn_6, qn_6, br_c (fun g5 => absurd ⟨q, ⟨h3, by omega, by omega⟩, rfl⟩ h) (fun _ => p)⟩)
theorem qj_Y1 {post : Int32 → Prop} {v : SY} {q : Nat} (h : qj_q q) (p : post 0) : wpY_badRect post v (nI q) := by
  obtain ⟨ks, os, oa, ob, oc, fr, di, fa, wk, nx⟩ := v
  obtain ⟨h3, h4, h5⟩ := h
  refine br_f (nI_pos (by omega)) (br_t ((qn_c1296 _).mpr (nI_lt (b := 1296) h3 (by decide))) ?_)
  refine ⟨qn_36, nm_r (qn_d36 (by omega)) ⟨qn_36, nm_r (qn_m36 (by omega)) ⟨qn_6, qn_6, ?_⟩⟩⟩
  rw [qn_d6 (by omega), qn_d6 (by omega), qn_m6' (by omega), qn_m6' (by omega), qn_lt (by omega) (by omega), qn_leI (by omega) (by omega)]
  exact br_f (by omega) ⟨qn_6, qn_6, br_t (by omega) p⟩
theorem qk_X {post : Int32 → Prop} {o a b : Int32} (h : post (qk_f o a b)) : wpX_combine post o a b := by
  unfold qk_f at h
  have n0 : ∀ z : Int32, (0 : Int32) ≤ z → ¬ z < 0 := fun z hz => Int32.not_lt.mpr hz
  refine br_c (fun c => ?_) (fun c => br_c (fun c3 => ?_) (fun c3 => ?_))
  · rw [if_neg (fun e => by subst e; exact absurd c (by decide)), if_neg (fun e => by subst e; exact absurd c (by decide)), if_neg (fun e => by subst e; exact absurd c (by decide)), if_neg (fun e => by subst e; exact absurd c (by decide))] at h
    exact br_c (fun d => by rw [if_pos d] at h; exact h) (fun d => by rw [if_neg d] at h; exact h)
  · rw [if_neg (fun e => by subst e; exact absurd c3 (by decide)), if_neg (fun e => by subst e; exact absurd c3 (by decide)), if_neg (fun e => by subst e; exact absurd c3 (by decide)), if_neg (fun e => by subst e; exact absurd c3 (by decide))] at h
    exact br_c (fun d => by rw [if_pos d] at h; exact h) (fun d => by rw [if_neg d] at h; exact h)
  · refine br_c (fun d => by rw [if_pos d] at h; exact h) (fun d => ?_)
    rw [if_neg d] at h
    refine br_c (fun d => by rw [if_pos d] at h; exact h) (fun d => ?_)
    rw [if_neg d] at h
    refine br_c (fun d => by rw [if_pos d] at h; exact h) (fun d => ?_)
    rw [if_neg d] at h
    refine br_c (fun d => ?_) (fun d => trivial)
    rw [if_pos d] at h
    exact br_c (fun d => by rw [if_pos d] at h; exact h) (fun d => by rw [if_neg d] at h; exact h)
theorem qk_Y {post : Int32 → Prop} {v : SY} {o a b : Int32} (h : post (qk_f o a b)) : wpY_combine post v o a b := by
  obtain ⟨ks, os, oa, ob, oc, fr, di, fa, wk, nx⟩ := v
  unfold qk_f at h
  refine br_c (fun d => by rw [if_pos d] at h; exact h) (fun d => ?_)
  rw [if_neg d] at h
  refine br_c (fun d => by rw [if_pos d] at h; exact h) (fun d => ?_)
  rw [if_neg d] at h
  refine br_c (fun d => by rw [if_pos d] at h; exact h) (fun d => ?_)
  rw [if_neg d] at h
  refine br_c (fun d => ?_) (fun d => ?_)
  · rw [if_pos d] at h
    exact br_c (fun d => by rw [if_pos d] at h; exact h) (fun d => by rw [if_neg d] at h; exact h)
  · rw [if_neg d] at h
    exact br_c (fun d => by rw [if_pos d] at h; exact h) (fun d => by rw [if_neg d] at h; exact h)
/-- X's contents as the picture has them -/
def qx_C (kd fi se th : Nat → Int32) (K A B C : Nat → Nat) : Prop := ∀ j, j < 36 → kd j = nI (K j) ∧ fi j = nI (A j) ∧ se j = nI (B j) ∧ th j = nI (C j)
theorem qx_h {post : Int32 → Prop} (kd nm op fi se th ow sh : Nat → Int32) (dr so : Nat → Int64) (st vl dp : Nat → Int32) {K A B C : Nat → Nat} (X : qx_C kd fi se th K A B C) (G : qp_G K A B C) {c : Nat} (hc : c < 36) (hK : K c = 3 ∨ K c = 5) (h : post (nI (B c / 6 - A c / 6 + 1))) : wpX_heightOf post (kd, nm, op, fi, se, th, ow, sh, dr, so, st, vl, dp) (nI c) := by
  have g := G c hc
  have g2 := g.2.2.2.2 hK
  have x := X c hc
  refine ⟨qn_in hc, qn_6, qn_in hc, qn_6, ?_⟩
  rw [qn_cl hc, x.2.1, x.2.2.1, qn_d6 (by omega), qn_d6 (by omega), pk_sub g2.1, nI_1]
  exact h
theorem qx_w {post : Int32 → Prop} (kd nm op fi se th ow sh : Nat → Int32) (dr so : Nat → Int64) (st vl dp : Nat → Int32) {K A B C : Nat → Nat} (X : qx_C kd fi se th K A B C) (G : qp_G K A B C) {c : Nat} (hc : c < 36) (hK : K c = 3 ∨ K c = 5) (h : post (nI (B c % 6 - A c % 6 + 1))) : wpX_widthOf post (kd, nm, op, fi, se, th, ow, sh, dr, so, st, vl, dp) (nI c) := by
  have g := G c hc
  have g2 := g.2.2.2.2 hK
  have x := X c hc
  refine ⟨qn_in hc, qn_6, qn_in hc, qn_6, ?_⟩
  rw [qn_cl hc, x.2.1, x.2.2.1, qn_m6 (by omega), qn_m6 (by omega), pk_sub g2.2, nI_1]
  exact h
/-- the cells of a rectangle that lie before row r, or in it before column k -/
def qz_p (a b r k d : Nat) : Bool := qp_ins d a b && decide (d / 6 < r ∨ (d / 6 = r ∧ d % 6 < k))
theorem qz_cb {post : Int64 → Prop} {a b : Nat} (ha : a < 36) (hb : b < 36) (hr : a / 6 ≤ b / 6) (hk : a % 6 ≤ b % 6) (h : ∀ x, qb_m x (fun d => qp_ins d a b) → post x) : wpX_cellsBetween post (nI a) (nI b) := by
  refine ⟨qn_6, nm_r (qn_d6 (by omega)) ?_⟩
  refine pk_loop (fun n r x => wX_cellsBetween_8 post (nI a) (nI b) n x (nI r)) (fun r x => a / 6 ≤ r ∧ qb_m x (qz_p a b r 0)) (b / 6 + 1) (a / 6) 0 (by omega) ?_ ?_ ?_
  · refine ⟨Nat.le_refl _, qb_mc qb_m0 (fun i hi => ?_)⟩
    unfold qz_p
    cases hz : qp_ins i a b with
    | false => rfl
    | true =>
      rw [qp_insI] at hz
      rw [decide_eq_false (by omega)]; rfl
  · intro n x hx
    refine ⟨qn_6, ?_⟩
    refine br_t (by rw [qn_d6 (by omega), qn_lt (by omega) (by omega)]; omega) (h x (qb_mc hx.2 (fun i hi => ?_)))
    unfold qz_p
    cases hz : qp_ins i a b with
    | false => rfl
    | true =>
      rw [qp_insI] at hz
      rw [decide_eq_true (by omega)]; rfl
  · intro n r x hr2 hx IH
    refine ⟨qn_6, br_f (by rw [qn_d6 (by omega), qn_lt (by omega) (by omega)]; omega) ⟨qn_6, nm_r (qn_m6 (by omega)) ?_⟩⟩
    refine pk_loop (fun n2 k x => wX_cellsBetween_23 post (wX_cellsBetween_8 post (nI a) (nI b) n) (nI a) (nI b) (nI r) n2 x (nI k)) (fun k x => a % 6 ≤ k ∧ qb_m x (qz_p a b r k)) (b % 6 + 1) (a % 6) x (by omega) ?_ ?_ ?_
    · refine ⟨Nat.le_refl _, qb_mc hx.2 (fun i hi => ?_)⟩
      unfold qz_p
      cases hz : qp_ins i a b with
      | false => rfl
      | true =>
        rw [qp_insI] at hz
        have e : (i / 6 < r ∨ (i / 6 = r ∧ i % 6 < 0)) ↔ (i / 6 < r ∨ (i / 6 = r ∧ i % 6 < a % 6)) := by omega
        rw [decide_eq_decide.mpr e]
    · intro n2 x2 hx2
      refine ⟨qn_6, br_t (by rw [qn_m6 (by omega), qn_lt (by omega) (by omega)]; omega) (nm_r (nI_1 r) (IH x2 ⟨by omega, qb_mc hx2.2 (fun i hi => ?_)⟩))⟩
      unfold qz_p
      cases hz : qp_ins i a b with
      | false => rfl
      | true =>
        rw [qp_insI] at hz
        have e : (i / 6 < r ∨ (i / 6 = r ∧ i % 6 < b % 6 + 1)) ↔ (i / 6 < r + 1 ∨ (i / 6 = r + 1 ∧ i % 6 < 0)) := by omega
        rw [decide_eq_decide.mpr e]
    · intro n2 k x2 hk2 hx2 IH2
      refine ⟨qn_6, br_f (by rw [qn_m6 (by omega), qn_lt (by omega) (by omega)]; omega) (nm_e (nm_r (nI_1 k) (IH2 _ ⟨by omega, ?_⟩)))⟩
      have e6 : (6 * nI r) + nI k = nI (6 * r + k) := by rw [qn_6x, nI_add]
      rw [e6]
      refine qb_mc (qb_ms (by omega) hx2.2) (fun i hi => ?_)
      unfold qz_p
      by_cases ei : i = 6 * r + k
      · rw [decide_eq_true ei, Bool.or_true, qp_insT (by omega), decide_eq_true (by omega)]; rfl
      · rw [decide_eq_false ei, Bool.or_false]
        have e : (i / 6 < r ∨ (i / 6 = r ∧ i % 6 < k)) ↔ (i / 6 < r ∨ (i / 6 = r ∧ i % 6 < k + 1)) := by omega
        rw [decide_eq_decide.mpr e]
end
section
/-! X: a spread can be laid out, is laid out; settleSpreads -/
theorem qp_canF {K A B W : Nat → Nat} {s c : Nat} (hc : c < 36) (h : qp_bar K W s (qp_end A B s) c = true) : qp_can K A B W s = false := by
  unfold qp_can
  rw [qe_iff.mpr ⟨c, hc, h⟩]
  exact Bool.and_false _
theorem qp_canN {K A B W : Nat → Nat} {s : Nat} (h : qp_fit A B s = false) : qp_can K A B W s = false := by
  unfold qp_can
  rw [h]; rfl
theorem qp_canT {K A B W : Nat → Nat} {s : Nat} (h : qp_fit A B s = true) (g : ∀ c, c < 36 → qp_bar K W s (qp_end A B s) c = false) : qp_can K A B W s = true := by
  unfold qp_can
  rw [h, qe_f.mpr g]; rfl
theorem qp_barF {K W : Nat → Nat} {s e c : Nat} (h : qp_ins c s e = false) : qp_bar K W s e c = false := by
  unfold qp_bar; rw [h]; rfl
theorem qp_barZ {K W : Nat → Nat} {s e c : Nat} (h : c = s ∨ K c = 0) (g : W c = 0) : qp_bar K W s e c = false := by
  unfold qp_bar
  have e1 : (decide (c ≠ s) && decide (K c ≠ 0)) = false := by
    rcases h with h | h
    · rw [decide_eq_false (by omega)]; rfl
    · rw [decide_eq_false (p := K c ≠ 0) (by omega)]; exact Bool.and_false _
  rw [e1, decide_eq_false (by omega)]
  exact Bool.and_false _
theorem qp_barW {K W : Nat → Nat} {s e c : Nat} (h : qp_ins c s e = true) (g : W c ≠ 0) : qp_bar K W s e c = true := by
  unfold qp_bar
  rw [h, decide_eq_true g, Bool.or_true]; rfl
theorem qp_barK {K W : Nat → Nat} {s e c : Nat} (h : qp_ins c s e = true) (g1 : c ≠ s) (g2 : K c ≠ 0) : qp_bar K W s e c = true := by
  unfold qp_bar
  rw [h, decide_eq_true g1, decide_eq_true g2]; rfl
theorem qa_X {post : Int32 → Prop} (kd nm op fi se th ow sh : Nat → Int32) (dr so : Nat → Int64) (st vl dp : Nat → Int32) {K A B C W : Nat → Nat} (X : qx_C kd fi se th K A B C) (G : qp_G K A B C) (hO : ∀ j, j < 36 → ow j = qp_oi (W j)) (hW : ∀ j, W j ≤ 36) {s : Nat} (hs : s < 36) (hK : K s = 5) (h0 : qp_can K A B W s = false → post 0) (h1 : qp_can K A B W s = true → post 1) : wpX_canOpen post (kd, nm, op, fi, se, th, ow, sh, dr, so, st, vl, dp) (nI s) := by
  have g := G s hs
  have g2 := g.2.2.2.2 (Or.inr hK)
  have gA := g.2.1
  have gB := g.2.2.1
  unfold wpX_canOpen
  dsimp only
  refine qx_h kd nm op fi se th ow sh dr so st vl dp X G hs (Or.inr hK) ?_
  refine qx_w kd nm op fi se th ow sh dr so st vl dp X G hs (Or.inr hK) ?_
  refine qm_X ?_
  rw [nI_pred, nI_pred]
  rcases qm_ok (a := s) hs (nI_toInt (n := B s / 6 - A s / 6) (by omega)) (nI_toInt (n := B s % 6 - A s % 6) (by omega)) (by omega) (by omega) with ⟨b, hb, e, e1, e2⟩ | ⟨e, hn⟩
  · have hf : qp_fit A B s = true := by rw [qp_fitI]; omega
    have he : qp_end A B s = b := by
      unfold qp_end
      omega
    rw [e]
    refine br_f (qn_m1 (by omega)) (qz_cb hs hb (by omega) (by omega) (fun x hx => ?_))
    rw [← he] at hx
    refine loop_0 (fun n i (_ : Unit) => wX_canOpen_43 post (nI s) x kd nm op fi se th ow sh dr so st vl dp n (nI i)) (fun i _ => ∀ c, c < i → qp_bar K W s (qp_end A B s) c = false) 36 () (fun c hc => absurd hc (Nat.not_lt_zero c)) ?_ ?_
    · intro n _ hI
      exact br_t qn_le (h1 (qp_canT hf hI))
    · intro n i _ hi hI IH
      have xi := X i hi
      refine br_f (qn_ge hi) (qh_XB hx hi (fun f => nm_r (nI_1 i) (IH () (lt_s hI (qp_barF f)))) (fun t => ?_))
      have H80 : (i = s ∨ K i = 0) → wX_canOpen_80 post (wX_canOpen_43 post (nI s) x kd nm op fi se th ow sh dr so st vl dp n) (nI s) x (nI i) kd nm op fi se th ow sh dr so st vl dp := by
        intro hz
        refine br_t rfl ⟨qn_in hi, ?_⟩
        rw [qn_cl hi, hO i hi]
        by_cases w : W i = 0
        · exact br_t (by rw [w]; rfl) (nm_r (nI_1 i) (IH () (lt_s hI (qp_barZ hz w))))
        · exact br_f (fun z => w ((qp_oiI (hW i)).mp z)) (h0 (qp_canF hi (qp_barW t w)))
      refine br_c (fun z => H80 (Or.inl ((qn_eq (by omega) (by omega)).mp z))) (fun z => ⟨qn_in hi, ?_⟩)
      have z2 : i ≠ s := fun y => z (by rw [y])
      have gK := (G i hi).1
      rw [qn_cl hi, xi.1]
      by_cases k : K i = 0
      · exact br_t (by rw [k]; rfl) (H80 (Or.inr k))
      · exact br_f (nI_ne0 (by omega) (by omega)) (br_f (by decide) (h0 (qp_canF hi (qp_barK t z2 k))))
  · have hf : qp_fit A B s = false := by
      refine Bool.eq_false_iff.mpr (fun z => ?_)
      rw [qp_fitI] at z
      omega
    rw [e]
    exact br_t rfl (h0 (qp_canN hf))
/-- the cells of the area at s that are filled: rows before r, or row r before column k -/
def qo_p (s e r k j : Nat) : Bool := qp_ins j s e && decide (j / 6 < s / 6 + r ∨ (j / 6 = s / 6 + r ∧ j % 6 < s % 6 + k))
def qo_I (A : Nat → Nat) (s e : Nat) (ow sh : Nat → Int32) (r k : Nat) (t : (Nat → Int32) × (Nat → Int32)) : Prop :=
  ∀ j, j < 36 → t.1 j = (if qo_p s e r k j = true then nI s else ow j) ∧ t.2 j = (if qo_p s e r k j = true then nI (A s + (j - s)) else sh j)
theorem qo_c {A : Nat → Nat} {s e : Nat} {ow sh : Nat → Int32} {r k r' k' : Nat} {t : (Nat → Int32) × (Nat → Int32)} (h : qo_I A s e ow sh r k t) (g : ∀ j, j < 36 → qo_p s e r k j = qo_p s e r' k' j) : qo_I A s e ow sh r' k' t := by
  intro j hj
  rw [← g j hj]
  exact h j hj
theorem qo_X {post : SX → Prop} (kd nm op fi se th ow sh : Nat → Int32) (dr so : Nat → Int64) (st vl dp : Nat → Int32) {K A B C : Nat → Nat} (X : qx_C kd fi se th K A B C) (G : qp_G K A B C) {s : Nat} (hs : s < 36) (hK : K s = 5) (hf : qp_fit A B s = true)
    (h : ∀ ow' sh' : Nat → Int32, (∀ j, j < 36 → ow' j = (if qp_ins j s (qp_end A B s) = true then nI s else ow j) ∧ sh' j = (if qp_ins j s (qp_end A B s) = true then nI (A s + (j - s)) else sh j)) → post (kd, nm, op, fi, se, th, ow', sh', dr, so, st, vl, dp)) : wpX_open post (kd, nm, op, fi, se, th, ow, sh, dr, so, st, vl, dp) (nI s) := by
  have g := G s hs
  have g2 := g.2.2.2.2 (Or.inr hK)
  have gA := g.2.1
  have gB := g.2.2.1
  have xs := X s hs
  have en := qp_endI hf
  have hf2 := qp_fitI.mp hf
  unfold wpX_open
  dsimp only
  refine qx_h kd nm op fi se th ow sh dr so st vl dp X G hs (Or.inr hK) ?_
  refine qx_w kd nm op fi se th ow sh dr so st vl dp X G hs (Or.inr hK) ?_
  generalize qp_end A B s = e at *
  generalize B s / 6 - A s / 6 = hh at *
  generalize B s % 6 - A s % 6 = ww at *
  refine loop_0 (fun n r (t : (Nat → Int32) × (Nat → Int32)) => wX_open_15 post (nI s) (nI (hh + 1)) (nI (ww + 1)) n (nI r) kd nm op fi se th t.1 t.2 dr so st vl dp) (fun r t => qo_I A s e ow sh r 0 t) (hh + 1) (ow, sh) ?_ ?_ ?_
  · intro j hj
    have z : qo_p s e 0 0 j = false := by
      unfold qo_p
      cases hz : qp_ins j s e with
      | false => rfl
      | true =>
        rw [qp_insI] at hz
        rw [decide_eq_false (by omega)]; rfl
    rw [z]
    exact ⟨rfl, rfl⟩
  · intro n t hI
    refine br_t (nI_le (Nat.le_refl _) (by omega)) (h t.1 t.2 (fun j hj => ?_))
    have z : qo_p s e (hh + 1) 0 j = qp_ins j s e := by
      unfold qo_p
      cases hz : qp_ins j s e with
      | false => rfl
      | true =>
        rw [qp_insI] at hz
        rw [decide_eq_true (by omega)]; rfl
    have i := hI j hj
    rw [z] at i
    exact i
  · intro n r t hr hI IH
    refine br_f (nI_ge (by omega) (by omega)) ?_
    refine loop_0 (fun n2 k (t : (Nat → Int32) × (Nat → Int32)) => wX_open_24 post (wX_open_15 post (nI s) (nI (hh + 1)) (nI (ww + 1)) n) (nI s) (nI (hh + 1)) (nI (ww + 1)) (nI r) n2 (nI k) kd nm op fi se th t.1 t.2 dr so st vl dp) (fun k t => qo_I A s e ow sh r k t) (ww + 1) t hI ?_ ?_
    · intro n2 t2 hI2
      refine br_t (nI_le (Nat.le_refl _) (by omega)) (nm_r (nI_1 r) (IH t2 (qo_c hI2 (fun j hj => ?_))))
      unfold qo_p
      cases hz : qp_ins j s e with
      | false => rfl
      | true =>
        rw [qp_insI] at hz
        have q : (j / 6 < s / 6 + r ∨ (j / 6 = s / 6 + r ∧ j % 6 < s % 6 + (ww + 1))) ↔ (j / 6 < s / 6 + (r + 1) ∨ (j / 6 = s / 6 + (r + 1) ∧ j % 6 < s % 6 + 0)) := by omega
        rw [decide_eq_decide.mpr q]
    · intro n2 k t2 hk hI2 IH2
      have hcell : s + 6 * r + k < 36 := by omega
      have ec : (nI s + 6 * nI r) + nI k = nI (s + 6 * r + k) := by rw [qn_6x, nI_add, nI_add]
      refine br_f (nI_ge (by omega) (by omega)) (nm_r ec ⟨qn_in hcell, nm_e ⟨qn_in hs, qn_in hcell, nm_e (nm_r (nI_1 k) (IH2 (upd t2.1 (nI (s + 6 * r + k)).toNatClampNeg (nI s), upd t2.2 (nI (s + 6 * r + k)).toNatClampNeg ((fi (nI s).toNatClampNeg + (6 * nI r)) + nI k)) ?_))⟩⟩)
      intro j hj
      have i := hI2 j hj
      rw [qn_cl hcell, qn_cl hs, xs.2.1, qn_6x, nI_add, nI_add]
      show upd t2.1 (s + 6 * r + k) (nI s) j = _ ∧ upd t2.2 (s + 6 * r + k) (nI (A s + 6 * r + k)) j = _
      by_cases ej : j = s + 6 * r + k
      · have z : qo_p s e r (k + 1) j = true := by
          unfold qo_p
          rw [qp_insT (by omega), decide_eq_true (by omega)]; rfl
        rw [z, if_pos rfl, if_pos rfl, ej, pk_us, pk_us]
        exact ⟨rfl, congrArg nI (by omega)⟩
      · have z : qo_p s e r (k + 1) j = qo_p s e r k j := by
          unfold qo_p
          have q : (j / 6 < s / 6 + r ∨ (j / 6 = s / 6 + r ∧ j % 6 < s % 6 + (k + 1))) ↔ (j / 6 < s / 6 + r ∨ (j / 6 = s / 6 + r ∧ j % 6 < s % 6 + k)) := by omega
          rw [decide_eq_decide.mpr q]
        rw [z, pk_un ej, pk_un ej]
        exact i
theorem qp_owS {K A B : Nat → Nat} {n : Nat} (h : K n = 5 ∧ qp_can K A B (qp_ow K A B n) n = true) (c : Nat) : qp_ow K A B (n + 1) c = if qp_ins c n (qp_end A B n) = true then n + 1 else qp_ow K A B n c := by
  show qp_step K A B n (qp_ow K A B n) c = _
  unfold qp_step
  rw [if_pos h]
theorem qp_owN {K A B : Nat → Nat} {n : Nat} (h : ¬ (K n = 5 ∧ qp_can K A B (qp_ow K A B n) n = true)) : qp_ow K A B (n + 1) = qp_ow K A B n := by
  show qp_step K A B n (qp_ow K A B n) = _
  unfold qp_step
  rw [if_neg h]
def qs_I (K A B : Nat → Nat) (i : Nat) (t : (Nat → Int32) × (Nat → Int32)) : Prop := ∀ j, j < 36 → t.1 j = qp_oi (qp_ow K A B i j) ∧ t.2 j = qp_si A (qp_ow K A B i) j
theorem qs_X {post : SX → Prop} (kd nm op fi se th ow sh : Nat → Int32) (dr so : Nat → Int64) (st vl dp : Nat → Int32) {K A B C : Nat → Nat} (X : qx_C kd fi se th K A B C) (G : qp_G K A B C)
    (h : ∀ ow' sh' : Nat → Int32, (∀ j, j < 36 → ow' j = qp_oi (qp_W K A B j)) → (∀ j, j < 36 → sh' j = qp_si A (qp_W K A B) j) → post (kd, nm, op, fi, se, th, ow', sh', dr, so, st, vl, dp)) : wpX_settleSpreads post (kd, nm, op, fi, se, th, ow, sh, dr, so, st, vl, dp) := by
  refine loop_0 (fun n i (t : (Nat → Int32) × (Nat → Int32)) => wX_settleSpreads_2 post n (nI i) kd nm op fi se th t.1 t.2 dr so st vl dp) (fun i t => ∀ j, j < i → t.1 j = -2 ∧ t.2 j = -2) 36 (ow, sh) (fun j hj => absurd hj (Nat.not_lt_zero j)) ?_ ?_
  · intro n t hI
    refine br_t qn_le ?_
    refine loop_0 (fun n i (t : (Nat → Int32) × (Nat → Int32)) => wX_settleSpreads_32 post n (nI i) kd nm op fi se th t.1 t.2 dr so st vl dp) (fun i t => qs_I K A B i t) 36 t hI ?_ ?_
    · intro n t hI
      exact br_t qn_le (h t.1 t.2 (fun j hj => (hI j hj).1) (fun j hj => (hI j hj).2))
    · intro n i t hi hI IH
      have x := X i hi
      have gK := (G i hi).1
      refine br_f (qn_ge hi) ⟨qn_in hi, ?_⟩
      rw [qn_cl hi, x.1]
      by_cases k5 : K i = 5
      · refine br_t (by rw [k5]; rfl) ?_
        refine qa_X kd nm op fi se th t.1 t.2 dr so st vl dp X G (W := qp_ow K A B i) (fun j hj => (hI j hj).1) (fun j => Nat.le_trans (qp_ow_le K A B i j) (by omega)) hi k5 (fun c => ?_) (fun c => ?_)
        · refine br_t rfl (nm_r (nI_1 i) (IH t ?_))
          have e := qp_owN (K := K) (A := A) (B := B) (n := i) (fun z => by rw [c] at z; exact absurd z.2 (by decide))
          intro j hj
          rw [e]
          exact hI j hj
        · refine br_f (by decide) ?_
          refine qo_X kd nm op fi se th t.1 t.2 dr so st vl dp X G hi k5 (qp_canI c).1 (fun ow' sh' hs' => ?_)
          refine nm_r (nI_1 i) (IH (ow', sh') ?_)
          intro j hj
          have e := qp_owS (K := K) (A := A) (B := B) (n := i) ⟨k5, c⟩ j
          have a := hs' j hj
          have b := hI j hj
          show ow' j = qp_oi (qp_ow K A B (i + 1) j) ∧ sh' j = qp_si A (qp_ow K A B (i + 1)) j
          unfold qp_si qp_sh
          rw [e]
          by_cases z : qp_ins j i (qp_end A B i) = true
          · rw [if_pos z, if_pos z] at a
            rw [if_pos z, if_neg (by omega), a.1, a.2, Nat.add_sub_cancel]
            exact ⟨rfl, rfl⟩
          · rw [if_neg z, if_neg z] at a
            rw [if_neg z, a.1, a.2]
            exact b
      · refine br_f (fun z => k5 ((qn_eq (b := 5) (by omega) (by omega)).mp z)) (nm_r (nI_1 i) (IH t ?_))
        have e := qp_owN (K := K) (A := A) (B := B) (n := i) (fun z => k5 z.1)
        intro j hj
        rw [e]
        exact hI j hj
  · intro n i t hi hI IH
    refine br_f (qn_ge hi) ⟨qn_in hi, nm_e ⟨qn_in hi, nm_e (nm_r (nI_1 i) (IH (upd t.1 (nI i).toNatClampNeg (-2), upd t.2 (nI i).toNatClampNeg (-2)) ?_))⟩⟩
    intro j hj
    rw [qn_cl hi]
    show upd t.1 i (-2) j = -2 ∧ upd t.2 i (-2) j = -2
    by_cases e : j = i
    · subst e; rw [pk_us, pk_us]; exact ⟨rfl, rfl⟩
    · rw [pk_un e, pk_un e]; exact hI j (by omega)
end
section
/-! X: namedByFormula, linkCells, closeLinks, judgeStates -/
theorem qp_shL {K A B C : Nat → Nat} (G : qp_G K A B C) {c : Nat} (hc : c < 36) (h : qp_W K A B c ≠ 0) : qp_sh A (qp_W K A B) c < 36 := by
  obtain ⟨s, hs, e1, e2, e3, e4, e5, e6, e7, _⟩ := qp_own G (Nat.le_refl 36) hc h
  have e6' : qp_sh A (qp_W K A B) c = A s + (c - s) := e6
  rw [e6']; exact e7
theorem qp_siI {K A B C : Nat → Nat} (G : qp_G K A B C) {c : Nat} (hc : c < 36) : qp_si A (qp_W K A B) c = -2 ↔ qp_W K A B c = 0 := by
  unfold qp_si
  by_cases e : qp_W K A B c = 0
  · rw [if_pos e]; exact ⟨fun _ => e, fun _ => rfl⟩
  · rw [if_neg e]
    exact ⟨fun z => absurd z (qn_m2 (by have := qp_shL G hc e; omega)), fun z => absurd z e⟩
theorem qp_si1 {A W : Nat → Nat} {c : Nat} (h : W c ≠ 0) : qp_si A W c = nI (qp_sh A W c) := if_neg h
theorem qp_Wle (K A B : Nat → Nat) (c : Nat) : qp_W K A B c ≤ 36 := qp_ow_le K A B 36 c
theorem qf_X {post : Int64 → Prop} (kd nm op fi se th ow sh : Nat → Int32) (dr so : Nat → Int64) (st vl dp : Nat → Int32) {K A B C W : Nat → Nat} (X : qx_C kd fi se th K A B C) (G : qp_G K A B C) {c : Nat} (hc : c < 36) (hW : W c = 0) (h : ∀ x, qb_m x (qp_D K A B C W c) → post x) : wpX_namedByFormula post (kd, nm, op, fi, se, th, ow, sh, dr, so, st, vl, dp) (nI c) := by
  have g := G c hc
  have x := X c hc
  have e0 : kd (nI c).toNatClampNeg = nI (K c) := by rw [qn_cl hc, x.1]
  refine ⟨qn_in hc, nm_r e0 ?_⟩
  rw [qn_cl hc, x.2.1, x.2.2.1, x.2.2.2]
  refine br_c (fun z => ?_) (fun z => br_c (fun y => ?_) (fun y => br_c (fun k => ?_) (fun k2 => br_c (fun k => ?_) (fun k3 => br_c (fun k => ?_) (fun _ => trivial)))))
  · have z2 : K c < 2 := (qn_lt (b := 2) (by omega) (by omega)).mp z
    exact h 0 (qb_mc qb_m0 (fun i _ => (qp_D_n hW (by omega) i).symm))
  · have z2 : 4 < K c := (qn_lt (a := 4) (by omega) (by omega)).mp y
    exact h 0 (qb_mc qb_m0 (fun i _ => (qp_D_n hW (by omega) i).symm))
  · have k' : K c = 2 := (qn_eq (b := 2) (by omega) (by omega)).mp k
    exact ⟨qn_in hc, qn_in hc, h _ (qb_mc (qb_mor (qb_m1c g.2.1) (qb_m1c g.2.2.1)) (fun i _ => (qp_D_2 hW k' i).symm))⟩
  · have k' : K c = 3 := (qn_eq (b := 3) (by omega) (by omega)).mp k
    have g3 := g.2.2.2.2 (Or.inl k')
    exact ⟨qn_in hc, qn_in hc, qz_cb g.2.1 g.2.2.1 g3.1 g3.2 (fun x hx => h x (qb_mc hx (fun i _ => (qp_D_3 hW k' i).symm)))⟩
  · have k' : K c = 4 := (qn_eq (b := 4) (by omega) (by omega)).mp k
    exact ⟨qn_in hc, qn_in hc, qn_in hc, h _ (qb_mc (qb_mor (qb_mor (qb_m1c g.2.1) (qb_m1c g.2.2.1)) (qb_m1c g.2.2.2.1)) (fun i _ => (qp_D_4 hW k' i).symm))⟩
theorem ql_up {P : Nat → Int64 → Prop} {d : Nat → Int64} {i : Nat} {y : Int64} (hi : i < 36) (h : ∀ j, j < i → P j (d j)) (hy : P i y) : ∀ j, j < i + 1 → P j (vp_updL d (nI i).toNatClampNeg y j) := by
  intro j hj
  rw [qn_cl hi]
  by_cases e : j = i
  · subst e; rw [pk_uLs]; exact hy
  · rw [pk_uLn e]; exact h j (by omega)
theorem ql_X {post : SX → Prop} (kd nm op fi se th ow sh : Nat → Int32) (dr so : Nat → Int64) (st vl dp : Nat → Int32) {K A B C : Nat → Nat} (X : qx_C kd fi se th K A B C) (G : qp_G K A B C) (hS : ∀ j, j < 36 → sh j = qp_si A (qp_W K A B) j)
    (h : ∀ dr' : Nat → Int64, (∀ j, j < 36 → qb_m (dr' j) (qp_D K A B C (qp_W K A B) j)) → post (kd, nm, op, fi, se, th, ow, sh, dr', so, st, vl, dp)) : wpX_linkCells post (kd, nm, op, fi, se, th, ow, sh, dr, so, st, vl, dp) := by
  refine loop_0 (fun n i (d : Nat → Int64) => wX_linkCells_2 post n (nI i) kd nm op fi se th ow sh d so st vl dp) (fun i d => ∀ j, j < i → qb_m (d j) (qp_D K A B C (qp_W K A B) j)) 36 dr (fun j hj => absurd hj (Nat.not_lt_zero j)) ?_ ?_
  · intro n d hI
    exact br_t qn_le (h d hI)
  · intro n i d hi hI IH
    refine br_f (qn_ge hi) ⟨qn_in hi, ?_⟩
    rw [qn_cl hi, hS i hi]
    refine ek_if (qp_siI G hi) (fun w => ?_) (fun w => ?_)
    · refine qf_X kd nm op fi se th ow sh d so st vl dp X G hi w (fun x hx => ⟨qn_in hi, nm_e (nm_r (nI_1 i) (IH _ ?_))⟩)
      have u := ql_up (P := fun j y => qb_m y (qp_D K A B C (qp_W K A B) j)) (y := x) hi hI hx
      rw [qn_cl hi] at u
      exact u
    · refine ⟨qn_in hi, qn_in hi, nm_e (nm_r (nI_1 i) (IH _ ?_))⟩
      rw [qp_si1 w]
      have u := ql_up (P := fun j y => qb_m y (qp_D K A B C (qp_W K A B) j)) (y := (1 : Int64) <<< ((nI (qp_sh A (qp_W K A B) i)).toInt64 &&& 63)) hi hI (qb_mc (qb_m1c (qp_shL G hi w)) (fun k _ => (qp_D_sh w k).symm))
      rw [qn_cl hi] at u
      exact u
theorem qw_mm (D : Nat → Nat → Bool) (m d : Nat) : qw_m D (m + 1) m d = qw_m D m m d := by
  rw [qw_s]
  cases qw_m D m m d <;> cases qw_m D m m m <;> rfl
/-- in the round of the middle m the cells below i are through -/
def qc_I (D : Nat → Nat → Bool) (m i : Nat) (s : Nat → Int64) : Prop := ∀ j, j < 36 → qb_m (s j) (if j < i then qw_m D (m + 1) j else qw_m D m j)
theorem qc_X {post : SX → Prop} (kd nm op fi se th ow sh : Nat → Int32) (dr so : Nat → Int64) (st vl dp : Nat → Int32) {D : Nat → Nat → Bool} (hD : ∀ j, j < 36 → qb_m (dr j) (D j))
    (h : ∀ so' : Nat → Int64, (∀ j, j < 36 → qb_m (so' j) (qf_F D j)) → post (kd, nm, op, fi, se, th, ow, sh, dr, so', st, vl, dp)) : wpX_closeLinks post (kd, nm, op, fi, se, th, ow, sh, dr, so, st, vl, dp) := by
  refine loop_0 (fun n i (d : Nat → Int64) => wX_closeLinks_2 post n (nI i) kd nm op fi se th ow sh dr d st vl dp) (fun i d => ∀ j, j < i → qb_m (d j) (D j)) 36 so (fun j hj => absurd hj (Nat.not_lt_zero j)) ?_ ?_
  · intro n d hI
    refine br_t qn_le ?_
    refine loop_0 (fun n m (d : Nat → Int64) => wX_closeLinks_28 post n (nI m) kd nm op fi se th ow sh dr d st vl dp) (fun m d => ∀ j, j < 36 → qb_m (d j) (qw_m D m j)) 36 d hI ?_ ?_
    · intro n d hI
      exact br_t qn_le (h d hI)
    · intro n m d hm hI IH
      refine br_f (qn_ge hm) ?_
      refine loop_0 (fun n2 i (d : Nat → Int64) => wX_closeLinks_36 post (wX_closeLinks_28 post n) (nI m) n2 (nI i) kd nm op fi se th ow sh dr d st vl dp) (fun i d => qc_I D m i d) 36 d (fun j hj => ?_) ?_ ?_
      · rw [if_neg (Nat.not_lt_zero j)]
        exact hI j hj
      · intro n2 d2 hI2
        refine br_t qn_le (nm_r (nI_1 m) (IH d2 (fun j hj => ?_)))
        have z := hI2 j hj
        rw [if_pos hj] at z
        exact z
      · intro n2 i d2 hi hI2 IH2
        have zi := hI2 i hi
        rw [if_neg (Nat.lt_irrefl i)] at zi
        have zm : qb_m (d2 m) (qw_m D m m) := by
          have z := hI2 m hm
          by_cases e : m < i
          · rw [if_pos e] at z
            exact qb_mc z (fun k _ => qw_mm D m k)
          · rw [if_neg e] at z
            exact z
        refine br_f (qn_ge hi) ⟨qn_in hi, ?_⟩
        rw [qn_cl hi, qn_cl hm]
        refine qh_XB zi hm (fun f => nm_r (nI_1 i) (IH2 d2 (fun j hj => ?_))) (fun t => ⟨qn_in hi, qn_in hm, qn_in hi, nm_e (nm_r (nI_1 i) (IH2 _ (fun j hj => ?_)))⟩)
        · by_cases e : j = i
          · subst e
            rw [if_pos (Nat.lt_succ_self j)]
            refine qb_mc zi (fun k _ => ?_)
            rw [qw_s, f, Bool.false_and, Bool.or_false]
          · have z := hI2 j hj
            by_cases e2 : j < i
            · rw [if_pos e2] at z; rw [if_pos (by omega)]; exact z
            · rw [if_neg e2] at z; rw [if_neg (by omega)]; exact z
        · by_cases e : j = i
          · subst e
            rw [if_pos (Nat.lt_succ_self j), pk_uLs]
            refine qb_mc (qb_mor zi zm) (fun k _ => ?_)
            rw [qw_s, t, Bool.true_and]
          · rw [pk_uLn e]
            have z := hI2 j hj
            by_cases e2 : j < i
            · rw [if_pos e2] at z; rw [if_pos (by omega)]; exact z
            · rw [if_neg e2] at z; rw [if_neg (by omega)]; exact z
  · intro n i d hi hI IH
    refine br_f (qn_ge hi) ⟨qn_in hi, qn_in hi, nm_e (nm_r (nI_1 i) (IH _ ?_))⟩
    refine ql_up (P := fun j y => qb_m y (D j)) hi hI ?_
    rw [qn_cl hi]
    exact hD i hi
theorem qj_i {P : Nat → Bool} {x : Int64} {i : Nat} (h : qb_m x (fun d => decide (d < i) && P d)) (f : P i = false) : qb_m x (fun d => decide (d < i + 1) && P d) := by
  refine qb_mc h (fun k _ => ?_)
  by_cases e : k = i
  · subst e; rw [f, Bool.and_false, Bool.and_false]
  · have q : (k < i) ↔ (k < i + 1) := by omega
    rw [decide_eq_decide.mpr q]
theorem qj_t {P : Nat → Bool} {x : Int64} {i : Nat} (hi : i < 36) (h : qb_m x (fun d => decide (d < i) && P d)) (t : P i = true) : qb_m (x ||| ((1 : Int64) <<< ((nI i).toInt64 &&& 63))) (fun d => decide (d < i + 1) && P d) := by
  refine qb_mc (qb_ms hi h) (fun k _ => ?_)
  by_cases e : k = i
  · subst e; rw [t, decide_eq_true rfl, Bool.or_true, decide_eq_true (Nat.lt_succ_self k)]; rfl
  · have q : (k < i) ↔ (k < i + 1) := by omega
    rw [decide_eq_decide.mpr q, decide_eq_false e, Bool.or_false]
theorem qj_36 {post : SX → Prop} {J : Int64 → Int64 → Int32 → Prop} (kd nm op fi se th ow sh : Nat → Int32) (dr so : Nat → Int64) (st vl dp : Nat → Int32) {K A B C W : Nat → Nat} (X : qx_C kd fi se th K A B C) (G : qp_G K A B C) (hO : ∀ j, j < 36 → ow j = qp_oi (W j)) (hW : ∀ j, W j ≤ 36) {i : Nat} (hi : i < 36) {x1 x3 : Int64} (h3 : qb_m x3 (fun d => decide (d < i) && qp_sp K W d))
    (h : ∀ y, qb_m y (fun d => decide (d < i + 1) && qp_sp K W d) → J x1 y (nI (i + 1))) : wX_judgeStates_36 post J x1 x3 (nI i) kd nm op fi se th ow sh dr so st vl dp := by
  have g := (G i hi).1
  have x := X i hi
  have H83 : qp_sp K W i = true → wX_judgeStates_83 post J x1 x3 (nI i) kd nm op fi se th ow sh dr so st vl dp := fun t => nm_e (nm_r (nI_1 i) (h _ (qj_t hi h3 t)))
  have H63 : ¬ (K i = 5 ∧ W i = 0) → wX_judgeStates_63 post J x1 x3 (nI i) kd nm op fi se th ow sh dr so st vl dp := by
    intro hn
    refine br_t rfl ⟨qn_in hi, ?_⟩
    rw [qn_cl hi, x.1]
    refine br_c (fun z => H83 ?_) (fun z => nm_r (nI_1 i) (h _ (qj_i h3 ?_)))
    · exact qp_spI.mpr (Or.inl ((qn_eq (b := 6) (by omega) (by omega)).mp z))
    · refine Bool.eq_false_iff.mpr (fun y => ?_)
      rcases qp_spI.mp y with y | y
      · exact z (by rw [y]; rfl)
      · exact hn y
  refine ⟨qn_in hi, ?_⟩
  rw [qn_cl hi, x.1, hO i hi]
  refine br_c (fun z => ⟨qn_in hi, ek_if (qp_oiI (hW i)) (fun w => ?_) (fun w => H63 (fun y => w y.2))⟩) (fun z => H63 (fun y => z (by rw [y.1]; rfl)))
  exact br_f (by decide) (H83 (qp_spI.mpr (Or.inr ⟨(qn_eq (b := 5) (by omega) (by omega)).mp z, w⟩)))
theorem qj_X {post : SX → Prop} (kd nm op fi se th ow sh : Nat → Int32) (dr so : Nat → Int64) (st vl dp : Nat → Int32) {K A B C : Nat → Nat} {D : Nat → Nat → Bool} (X : qx_C kd fi se th K A B C) (G : qp_G K A B C) (hO : ∀ j, j < 36 → ow j = qp_oi (qp_W K A B j)) (hS : ∀ j, j < 36 → sh j = qp_si A (qp_W K A B) j) (hF : ∀ j, j < 36 → qb_m (so j) (qf_F D j))
    (h : ∀ st' : Nat → Int32, (∀ j, j < 36 → st' j = nI (qp_st D K (qp_W K A B) j)) → post (kd, nm, op, fi, se, th, ow, sh, dr, so, st', vl, dp)) : wpX_judgeStates post (kd, nm, op, fi, se, th, ow, sh, dr, so, st, vl, dp) := by
  refine loop_0 (fun n i (t : Int64 × Int64) => wX_judgeStates_7 post kd nm op fi se th ow sh dr so st vl dp n t.1 t.2 (nI i)) (fun i t => qb_m t.1 (fun d => decide (d < i) && qf_F D d d) ∧ qb_m t.2 (fun d => decide (d < i) && qp_sp K (qp_W K A B) d)) 36 (0, 0) ?_ ?_ ?_
  · exact ⟨qb_mc qb_m0 (fun k _ => rfl), qb_mc qb_m0 (fun k _ => rfl)⟩
  · intro n t hI
    refine br_t qn_le ?_
    refine loop_0 (fun n i (s : Nat → Int32) => wX_judgeStates_99 post t.1 t.2 n (nI i) kd nm op fi se th ow sh dr so s vl dp) (fun i s => ∀ j, j < i → s j = nI (qp_st D K (qp_W K A B) j)) 36 st (fun j hj => absurd hj (Nat.not_lt_zero j)) ?_ ?_
    · intro n s hI2
      exact br_t qn_le (h s hI2)
    · intro n i s hi hI2 IH
      have g := (G i hi).1
      have x := X i hi
      have m1 := qb_mc hI.1 (Q := fun d => qf_F D d d) (fun k hk => by rw [decide_eq_true hk, Bool.true_and])
      have m3 := qb_mc hI.2 (Q := fun d => qp_sp K (qp_W K A B) d) (fun k hk => by rw [decide_eq_true hk, Bool.true_and])
      have m6 := qb_ms hi (hF i hi)
      have key : ∀ v : Int32, v = nI (qp_st D K (qp_W K A B) i) → (vp_in (nI i) 36 ∧ ∀ a, a = upd s i v → ∀ y, y = nI i + 1 → wX_judgeStates_99 post t.1 t.2 n y kd nm op fi se th ow sh dr so a vl dp) := by
        intro v hv
        refine ⟨qn_in hi, nm_e (nm_r (nI_1 i) (IH _ (fun j hj => ?_)))⟩
        by_cases e : j = i
        · subst e; rw [pk_us]; exact hv
        · rw [pk_un e]; exact hI2 j (by omega)
      have c1 : ((so i ||| ((1 : Int64) <<< ((nI i).toInt64 &&& 63))) &&& t.1) = 0 ↔ qf_c D i = false := by
        rw [qb_an m6 m1, qf_nc]
        constructor
        · intro a
          exact ⟨a i hi (by rw [decide_eq_true rfl, Bool.or_true]), fun d hd f => a d hd (by rw [f]; rfl)⟩
        · rintro ⟨a, b⟩ d hd f
          rw [Bool.or_eq_true, decide_eq_true_eq] at f
          rcases f with f | f
          · exact b d hd f
          · rw [f]; exact a
      have c3 : ((so i ||| ((1 : Int64) <<< ((nI i).toInt64 &&& 63))) &&& t.2) = 0 ↔ qp_bad D K (qp_W K A B) i = false := by
        rw [qb_an m6 m3]
        unfold qp_bad
        rw [Bool.or_eq_false_iff, qe_f]
        constructor
        · intro a
          refine ⟨a i hi (by rw [decide_eq_true rfl, Bool.or_true]), fun d hd => ?_⟩
          cases f : qf_F D i d with
          | false => rfl
          | true => rw [a d hd (by rw [f]; rfl)]; rfl
        · rintro ⟨a, b⟩ d hd f
          rw [Bool.or_eq_true, decide_eq_true_eq] at f
          rcases f with f | f
          · have t := b d hd
            rw [f, Bool.true_and] at t
            exact t
          · rw [f]; exact a
      refine br_f (qn_ge hi) ⟨qn_in hi, nm_e ?_⟩
      rw [qn_cl hi, x.1, hS i hi]
      refine ek_if c1 (fun z1 => ek_if c3 (fun z3 => ⟨qn_in hi, br_c (fun k => ⟨qn_in hi, ek_if (qp_siI G hi) (fun w => key 0 ?_) (fun w => key 1 ?_)⟩) (fun k => key 1 ?_)⟩) (fun z3 => key 3 ?_)) (fun z1 => key 2 ?_)
      · have k' : K i = 0 := (qn_eq (b := 0) (by omega) (by omega)).mp k
        unfold qp_st
        rw [z1, z3, if_neg (by decide), if_neg (by decide), if_pos ⟨k', w⟩]; rfl
      · unfold qp_st
        rw [z1, z3, if_neg (by decide), if_neg (by decide), if_neg (fun y => w y.2)]; rfl
      · unfold qp_st
        rw [z1, z3, if_neg (by decide), if_neg (by decide), if_neg (fun y => k (by rw [y.1]; rfl))]; rfl
      · unfold qp_st
        rw [z1, if_neg (by decide), if_pos (Bool.not_eq_false _ ▸ z3)]; rfl
      · unfold qp_st
        rw [if_pos (Bool.not_eq_false _ ▸ z1)]; rfl
  · intro n i t hi hI IH
    refine br_f (qn_ge hi) ⟨qn_in hi, ?_⟩
    rw [qn_cl hi]
    refine qh_XB (hF i hi) hi (fun f => ?_) (fun f => nm_e ?_)
    · exact qj_36 kd nm op fi se th ow sh dr so st vl dp X G hO (qp_Wle K A B) hi hI.2 (fun y hy => IH (t.1, y) ⟨qj_i (P := fun d => qf_F D d d) hI.1 f, hy⟩)
    · exact qj_36 kd nm op fi se th ow sh dr so st vl dp X G hO (qp_Wle K A B) hi hI.2 (fun y hy => IH (t.1 ||| ((1 : Int64) <<< ((nI i).toInt64 &&& 63)), y) ⟨qj_t (P := fun d => qf_F D d d) hi hI.1 f, hy⟩)
end
section
/-! X: totalOf, deepestOf, evaluate, evaluateAll, settle -/
theorem qt_X {post : Int32 → Prop} (kd nm op fi se th ow sh : Nat → Int32) (dr so : Nat → Int64) (st vl dp : Nat → Int32) {x : Int64} {P : Nat → Bool} (m : qb_m x P) (h : post (qs_m P vl 36)) : wpX_totalOf post (kd, nm, op, fi, se, th, ow, sh, dr, so, st, vl, dp) x := by
  refine loop_0 (fun n i (s : Int32) => wX_totalOf_5 post x kd nm op fi se th ow sh dr so st vl dp n s (nI i)) (fun i s => s = qs_m P vl i) 36 0 rfl ?_ ?_
  · intro n s hI
    refine br_t qn_le ?_
    rw [hI]; exact h
  · intro n i s hi hI IH
    refine br_f (qn_ge hi) (qh_XB m hi (fun f => nm_r (nI_1 i) (IH s ?_)) (fun t => ⟨qn_in hi, nm_e (nm_r (nI_1 i) (IH _ ?_))⟩))
    · show s = if P i = true then _ else _
      rw [if_neg (by rw [f]; decide)]; exact hI
    · show s + vl (nI i).toNatClampNeg = if P i = true then _ else _
      rw [if_pos t, qn_cl hi, hI]
theorem qd_X {post : Int32 → Prop} (kd nm op fi se th ow sh : Nat → Int32) (dr so : Nat → Int64) (st vl dp : Nat → Int32) {x : Int64} {P : Nat → Bool} (m : qb_m x P) (h : post (qd_m P dp 36)) : wpX_deepestOf post (kd, nm, op, fi, se, th, ow, sh, dr, so, st, vl, dp) x := by
  refine loop_0 (fun n i (s : Int32) => wX_deepestOf_5 post x kd nm op fi se th ow sh dr so st vl dp n s (nI i)) (fun i s => s = qd_m P dp i) 36 0 rfl ?_ ?_
  · intro n s hI
    refine br_t qn_le ?_
    rw [hI]; exact h
  · intro n i s hi hI IH
    refine br_f (qn_ge hi) (qh_XB m hi (fun f => nm_r (nI_1 i) (IH s ?_)) (fun t => ⟨qn_in hi, ?_⟩))
    · show s = if P i = true then _ else _
      rw [if_neg (by rw [f]; decide)]; exact hI
    · rw [qn_cl hi]
      refine br_c (fun c => nm_r (nI_1 i) (IH s ?_)) (fun c => ⟨qn_in hi, nm_e (nm_r (nI_1 i) (IH _ ?_))⟩)
      · show s = if P i = true then (if dp i ≤ qd_m P dp i then _ else _) else _
        rw [if_pos t, ← hI, if_pos c]
      · show dp i = if P i = true then (if dp i ≤ qd_m P dp i then _ else _) else _
        rw [if_pos t, ← hI, if_neg c]
theorem qv_X {post : Int32 → Prop} (kd nm op fi se th ow sh : Nat → Int32) (dr so : Nat → Int64) (st vl dp : Nat → Int32) {K A B C : Nat → Nat} (X : qx_C kd fi se th K A B C) (G : qp_G K A B C) (hS : ∀ j, j < 36 → sh j = qp_si A (qp_W K A B) j) {c : Nat} (hc : c < 36) (hD : qb_m (dr c) (qp_D K A B C (qp_W K A B) c)) (h : post (qp_ev K A B C (qp_W K A B) nm op vl c)) : wpX_evaluate post (kd, nm, op, fi, se, th, ow, sh, dr, so, st, vl, dp) (nI c) := by
  have g := G c hc
  have x := X c hc
  have e0 : kd (nI c).toNatClampNeg = nI (K c) := by rw [qn_cl hc, x.1]
  unfold qp_ev at h
  refine ⟨qn_in hc, ?_⟩
  rw [e0, qn_cl hc, hS c hc]
  refine ek_if (qp_siI G hc) (fun w => ⟨qn_in hc, nm_e ?_⟩) (fun w => ⟨qn_in hc, ?_⟩)
  · rw [if_neg (by omega)] at h
    rw [x.2.1, x.2.2.1, x.2.2.2, qn_cl g.2.1, qn_cl g.2.2.1, qn_cl g.2.2.2.1]
    refine br_c (fun z => ?_) (fun z => br_c (fun y => ?_) (fun y => br_c (fun k => ?_) (fun k1 => br_c (fun k => ?_) (fun k2 => br_c (fun k => ?_) (fun k3 => br_c (fun k => ?_) (fun _ => trivial))))))
    · have z2 : K c < 1 := (qn_lt (b := 1) (by omega) (by omega)).mp z
      rw [if_neg (by omega), if_neg (by omega), if_neg (by omega), if_neg (by omega)] at h
      exact h
    · have z2 : 4 < K c := (qn_lt (a := 4) (by omega) (by omega)).mp y
      rw [if_neg (by omega), if_neg (by omega), if_neg (by omega), if_neg (by omega)] at h
      exact h
    · have k' : K c = 1 := (qn_eq (b := 1) (by omega) (by omega)).mp k
      rw [if_pos k'] at h
      exact ⟨qn_in hc, h⟩
    · have k' : K c = 2 := (qn_eq (b := 2) (by omega) (by omega)).mp k
      rw [if_neg (by omega), if_pos k'] at h
      exact ⟨qn_in hc, qn_in hc, qn_in g.2.1, qn_in hc, qn_in g.2.2.1, qk_X h⟩
    · have k' : K c = 3 := (qn_eq (b := 3) (by omega) (by omega)).mp k
      rw [if_neg (by omega), if_neg (by omega), if_neg (by omega), if_pos k'] at h
      refine ⟨qn_in hc, qt_X kd nm op fi se th ow sh dr so st vl dp hD ?_⟩
      rw [qs_c (Q := fun d => qp_ins d (A c) (B c)) (V' := vl) (fun i _ => qp_D_3 w k' i) (fun _ _ _ => rfl)]
      exact h
    · have k' : K c = 4 := (qn_eq (b := 4) (by omega) (by omega)).mp k
      rw [if_neg (by omega), if_neg (by omega), if_pos k'] at h
      refine ⟨qn_in hc, qn_in g.2.1, br_c (fun y => ⟨qn_in hc, qn_in g.2.2.2.1, ?_⟩) (fun y => ⟨qn_in hc, qn_in g.2.2.1, ?_⟩)⟩
      · rw [if_pos y] at h; exact h
      · rw [if_neg y] at h; exact h
  · rw [if_pos w] at h
    rw [qp_si1 w, qn_cl (qp_shL G hc w)]
    exact ⟨qn_in (qp_shL G hc w), h⟩
/-- what evaluateAll keeps in pass p ahead of the cell i -/
def qe_I (D : Nat → Nat → Bool) (E : (Nat → Int32) → Nat → Int32) (S : Nat → Nat) (p i : Nat) (t : Int64 × (Nat → Int32) × (Nat → Int32)) : Prop :=
  ∃ N : Nat → Bool, qb_m t.1 N ∧ qx_I D p i N ∧ qx_V D E N t.2.1 ∧ qx_V D (qp_P D) N t.2.2 ∧ ∀ c, c < 36 → S c ≠ 1 → t.2.1 c = 0
theorem qe_X {post : SX → Prop} (kd nm op fi se th ow sh : Nat → Int32) (dr so : Nat → Int64) (st vl dp : Nat → Int32) {K A B C : Nat → Nat} (X : qx_C kd fi se th K A B C) (G : qp_G K A B C) (hS : ∀ j, j < 36 → sh j = qp_si A (qp_W K A B) j) (hD : ∀ j, j < 36 → qb_m (dr j) (qp_D K A B C (qp_W K A B) j)) (hT : ∀ j, j < 36 → st j = nI (qp_st (qp_D K A B C (qp_W K A B)) K (qp_W K A B) j))
    (h : ∀ vl' dp' : Nat → Int32, (∀ j, j < 36 → vl' j = qv_V (qp_E (qp_D K A B C (qp_W K A B)) K A B C (qp_W K A B) nm op) j) → (∀ j, j < 36 → qf_c (qp_D K A B C (qp_W K A B)) j = false → dp' j = qv_V (qp_P (qp_D K A B C (qp_W K A B))) j) → post (kd, nm, op, fi, se, th, ow, sh, dr, so, st, vl', dp')) : wpX_evaluateAll post (kd, nm, op, fi, se, th, ow, sh, dr, so, st, vl, dp) := by
  have EL := qp_EL G nm op
  refine loop_0 (fun n i (t : (Nat → Int32) × (Nat → Int32)) => wX_evaluateAll_2 post n (nI i) kd nm op fi se th ow sh dr so st t.1 t.2) (fun i t => ∀ j, j < i → t.1 j = 0) 36 (vl, dp) (fun j hj => absurd hj (Nat.not_lt_zero j)) ?_ ?_
  · intro n t hZ
    refine br_t qn_le ?_
    refine loop_0 (fun n p (t : Int64 × (Nat → Int32) × (Nat → Int32)) => wX_evaluateAll_32 post n t.1 (nI p) kd nm op fi se th ow sh dr so st t.2.1 t.2.2) (fun p t => qe_I (qp_D K A B C (qp_W K A B)) (qp_E (qp_D K A B C (qp_W K A B)) K A B C (qp_W K A B) nm op) (qp_st (qp_D K A B C (qp_W K A B)) K (qp_W K A B)) p 0 t) 36 (0, t.1, t.2) ?_ ?_ ?_
    · exact ⟨fun _ => false, qb_m0, qx_0, qx_V0, qx_V0, fun c hc _ => hZ c hc⟩
    · intro n t hI
      obtain ⟨N, hN, hx, hv, hd, hz⟩ := hI
      refine br_t qn_le (h t.2.1 t.2.2 (fun j hj => ?_) (fun j hj hc => qx_e hx hd (Nat.le_refl 36) hj hc))
      cases hc : qf_c (qp_D K A B C (qp_W K A B)) j with
      | false => exact qx_e hx hv (Nat.le_refl 36) hj hc
      | true =>
        have s2 := qp_st2 (K := K) (W := qp_W K A B) |>.mpr hc
        rw [hz j hj (by omega)]
        show _ = qp_E (qp_D K A B C (qp_W K A B)) K A B C (qp_W K A B) nm op _ j
        unfold qp_E
        rw [if_neg (by omega)]
    · intro n p t hp hI IH
      refine br_f (qn_ge hp) ?_
      refine loop_0 (fun n2 i (t : Int64 × (Nat → Int32) × (Nat → Int32)) => wX_evaluateAll_41 post (wX_evaluateAll_32 post n) (nI p) n2 t.1 (nI i) kd nm op fi se th ow sh dr so st t.2.1 t.2.2) (fun i t => qe_I (qp_D K A B C (qp_W K A B)) (qp_E (qp_D K A B C (qp_W K A B)) K A B C (qp_W K A B) nm op) (qp_st (qp_D K A B C (qp_W K A B)) K (qp_W K A B)) p i t) 36 t hI ?_ ?_
      · intro n2 t2 hI2
        obtain ⟨N, hN, hx, hv, hd, hz⟩ := hI2
        exact br_t qn_le (nm_r (nI_1 p) (IH t2 ⟨N, hN, qx_p hx, hv, hd, hz⟩))
      · intro n2 i t2 hi hI2 IH2
        obtain ⟨N, hN, hx, hv, hd, hz⟩ := hI2
        have sle := qp_st_le (qp_D K A B C (qp_W K A B)) K (qp_W K A B) i
        refine br_f (qn_ge hi) (qh_XB hN hi (fun f => ⟨qn_in hi, ?_⟩) (fun tt => nm_r (nI_1 i) (IH2 t2 ⟨N, hN, qx_done hx tt, hv, hd, hz⟩)))
        rw [qn_cl hi]
        refine ek_if (qb_sub (hD i hi) hN) (fun sb => ⟨qn_in hi, ?_⟩) (fun sb => nm_r (nI_1 i) (IH2 t2 ⟨N, hN, qx_wait hx sb, hv, hd, hz⟩))
        have H99 : ∀ vl2 : Nat → Int32, qx_V (qp_D K A B C (qp_W K A B)) (qp_E (qp_D K A B C (qp_W K A B)) K A B C (qp_W K A B) nm op) (fun k => N k || decide (k = i)) vl2 → (∀ c, c < 36 → qp_st (qp_D K A B C (qp_W K A B)) K (qp_W K A B) c ≠ 1 → vl2 c = 0) → wX_evaluateAll_99 post (wX_evaluateAll_32 post n) (wX_evaluateAll_41 post (wX_evaluateAll_32 post n) (nI p) n2) t2.1 (nI p) (nI i) kd nm op fi se th ow sh dr so st vl2 t2.2.2 := by
          intro vl2 hv2 hz2
          refine ⟨qn_in hi, ?_⟩
          rw [qn_cl hi]
          refine qd_X kd nm op fi se th ow sh dr so st vl2 t2.2.2 (hD i hi) ⟨qn_in hi, nm_e (nm_e (nm_r (nI_1 i) (IH2 (t2.1 ||| ((1 : Int64) <<< ((nI i).toInt64 &&& 63)), vl2, upd t2.2.2 i (1 + qd_m (qp_D K A B C (qp_W K A B) i) t2.2.2 36)) ⟨_, qb_ms hi hN, qx_put hx sb, hv2, ?_, hz2⟩)))⟩
          exact qx_Vput (qp_PL _) hd hi sb f (fun _ => pk_us) (fun c _ ne => pk_un ne)
        rw [hT i hi]
        refine br_c (fun s1 => ?_) (fun s1 => H99 t2.2.1 ?_ hz)
        · have s1' := (qn_eq (b := 1) (by omega) (by omega)).mp s1
          refine qv_X kd nm op fi se th ow sh dr so st t2.2.1 t2.2.2 X G hS hi (hD i hi) ⟨qn_in hi, nm_e (H99 _ ?_ ?_)⟩
          · refine qx_Vput EL hv hi sb f (fun _ => ?_) (fun c _ ne => pk_un ne)
            rw [pk_us]
            unfold qp_E
            rw [if_pos s1']
          · intro c hc hs
            rw [pk_un (fun e => hs (by rw [e]; exact s1'))]
            exact hz c hc hs
        · have s1' : ¬ qp_st (qp_D K A B C (qp_W K A B)) K (qp_W K A B) i = 1 := fun e => s1 (by rw [e]; rfl)
          refine qx_Vput EL hv hi sb f (fun _ => ?_) (fun c _ ne => rfl)
          rw [hz i hi s1']
          unfold qp_E
          rw [if_neg s1']
  · intro n i t hi hI IH
    refine br_f (qn_ge hi) ⟨qn_in hi, nm_e ⟨qn_in hi, nm_e (nm_r (nI_1 i) (IH (upd t.1 (nI i).toNatClampNeg 0, upd t.2 (nI i).toNatClampNeg 0) ?_))⟩⟩
    intro j hj
    rw [qn_cl hi]
    show upd t.1 i 0 j = 0
    by_cases e : j = i
    · subst e; rw [pk_us]
    · rw [pk_un e]; exact hI j (by omega)
/-- what X has worked out of its contents -/
def qx_Z (K A B C : Nat → Nat) (nm op ow sh : Nat → Int32) (so : Nat → Int64) (st vl dp : Nat → Int32) : Prop :=
  (∀ j, j < 36 → ow j = qp_oi (qp_W K A B j)) ∧ (∀ j, j < 36 → sh j = qp_si A (qp_W K A B) j) ∧ (∀ j, j < 36 → qb_m (so j) (qf_F (qp_D K A B C (qp_W K A B)) j)) ∧ (∀ j, j < 36 → st j = nI (qp_st (qp_D K A B C (qp_W K A B)) K (qp_W K A B) j)) ∧ (∀ j, j < 36 → vl j = qv_V (qp_E (qp_D K A B C (qp_W K A B)) K A B C (qp_W K A B) nm op) j) ∧ (∀ j, j < 36 → qf_c (qp_D K A B C (qp_W K A B)) j = false → dp j = qv_V (qp_P (qp_D K A B C (qp_W K A B))) j)
theorem qx_S {post : SX → Prop} (kd nm op fi se th ow sh : Nat → Int32) (dr so : Nat → Int64) (st vl dp : Nat → Int32) {K A B C : Nat → Nat} (X : qx_C kd fi se th K A B C) (G : qp_G K A B C)
    (h : ∀ (ow' sh' : Nat → Int32) (dr' so' : Nat → Int64) (st' vl' dp' : Nat → Int32), qx_Z K A B C nm op ow' sh' so' st' vl' dp' → post (kd, nm, op, fi, se, th, ow', sh', dr', so', st', vl', dp')) : wpX_settle post (kd, nm, op, fi, se, th, ow, sh, dr, so, st, vl, dp) := by
  unfold wpX_settle
  dsimp only
  refine qs_X kd nm op fi se th ow sh dr so st vl dp X G (fun ow' sh' h1 h2 => ?_)
  refine ql_X kd nm op fi se th ow' sh' dr so st vl dp X G h2 (fun dr' h3 => ?_)
  refine qc_X kd nm op fi se th ow' sh' dr' so st vl dp h3 (fun so' h4 => ?_)
  refine qj_X kd nm op fi se th ow' sh' dr' so' st vl dp X G h1 h2 h4 (fun st' h5 => ?_)
  refine qe_X kd nm op fi se th ow' sh' dr' so' st' vl dp X G h2 h3 h5 (fun vl' dp' h6 h7 => ?_)
  exact h ow' sh' dr' so' st' vl' dp' ⟨h1, h2, h4, h5, h6, h7⟩
end
section
/-! Y: canOpen, take, settle, shown, reads, widen, trace, spoilt, stateOf -/
def qy_C (ks os oa ob oc : Nat → Int32) (K A B C : Nat → Nat) (nm op : Nat → Int32) : Prop := ∀ j, j < 36 → ks j = nI (K j) ∧ oa j = (if K j = 1 then nm j else nI (A j)) ∧ ob j = nI (B j) ∧ oc j = nI (C j) ∧ (K j = 2 → os j = op j)
theorem qy_a {ks os oa ob oc : Nat → Int32} {K A B C : Nat → Nat} {nm op : Nat → Int32} (Y : qy_C ks os oa ob oc K A B C nm op) {j : Nat} (hj : j < 36) (h : K j ≠ 1) : oa j = nI (A j) := by
  rw [(Y j hj).2.1, if_neg h]
theorem qa_Y {post : Int32 → Prop} (ks os oa ob oc fr : Nat → Int32) (di fa : Nat → Int64) (wk nx : Nat → Int32) {nm op : Nat → Int32} {K A B C W : Nat → Nat} (Y : qy_C ks os oa ob oc K A B C nm op) (G : qp_G K A B C) (hO : ∀ j, j < 36 → fr j = qp_oi (W j)) (hW : ∀ j, W j ≤ 36) {s : Nat} (hs : s < 36) (hK : K s = 5) (h0 : qp_can K A B W s = false → post 0) (h1 : qp_can K A B W s = true → post 1) : wpY_canOpen post (ks, os, oa, ob, oc, fr, di, fa, wk, nx) (nI s) := by
  have g := G s hs
  have g2 := g.2.2.2.2 (Or.inr hK)
  have gA := g.2.1
  have gB := g.2.2.1
  have y := Y s hs
  refine ⟨qn_in hs, qn_6, qn_in hs, qn_6, qn_in hs, qn_6, qn_in hs, qn_6, qm_Y ?_⟩
  rw [qn_cl hs, qy_a Y hs (by omega), y.2.2.1, qn_d6 (a := A s) (by omega), qn_d6 (a := B s) (by omega), qn_m6' (a := A s) (by omega), qn_m6' (a := B s) (by omega), pk_sub g2.1, pk_sub g2.2]
  rcases qm_ok (a := s) hs (nI_toInt (n := B s / 6 - A s / 6) (by omega)) (nI_toInt (n := B s % 6 - A s % 6) (by omega)) (by omega) (by omega) with ⟨b, hb, e, e1, e2⟩ | ⟨e, hn⟩
  · have hf : qp_fit A B s = true := by rw [qp_fitI]; omega
    have he : b = qp_end A B s := by
      unfold qp_end
      omega
    rw [e]
    refine br_t (nI_pos' (by omega)) ?_
    refine loop_0 (fun n i (_ : Unit) => wY_canOpen_52 post (nI s) (nI b) ks os oa ob oc fr di fa wk nx n (nI i)) (fun i _ => ∀ c, c < i → qp_bar K W s (qp_end A B s) c = false) 36 () (fun c hc => absurd hc (Nat.not_lt_zero c)) ?_ ?_
    · intro n _ hI
      exact br_t qn_le (h1 (qp_canT hf hI))
    · intro n i _ hi hI IH
      have yi := Y i hi
      refine br_f (qn_ge hi) (qi_insB hi hs hb (fun f => nm_r (nI_1 i) (IH () (lt_s hI (qp_barF (by rw [← he]; exact f))))) (fun t => ?_))
      rw [he] at t
      have H85 : (i = s ∨ K i = 0) → wY_canOpen_85 post (wY_canOpen_52 post (nI s) (nI b) ks os oa ob oc fr di fa wk nx n) (nI s) (nI b) (nI i) ks os oa ob oc fr di fa wk nx := by
        intro hz
        refine ⟨qn_in hi, ?_⟩
        rw [qn_cl hi, hO i hi]
        exact ek_if (qp_oiL (hW i)) (fun w => nm_r (nI_1 i) (IH () (lt_s hI (qp_barZ hz w)))) (fun w => h0 (qp_canF hi (qp_barW t w)))
      refine br_c (fun z => H85 (Or.inl ((qn_eq (by omega) (by omega)).mp z))) (fun z => ⟨qn_in hi, ?_⟩)
      have z2 : i ≠ s := fun y => z (by rw [y])
      have gK := (G i hi).1
      rw [qn_cl hi, yi.1]
      by_cases k : K i = 0
      · exact br_t (by rw [k]; rfl) (H85 (Or.inr k))
      · exact br_f (nI_ne0 (by omega) (by omega)) (h0 (qp_canF hi (qp_barK t z2 k)))
  · have hf : qp_fit A B s = false := by
      refine Bool.eq_false_iff.mpr (fun z => ?_)
      rw [qp_fitI] at z
      omega
    rw [e]
    exact br_f (by decide) (h0 (qp_canN hf))
theorem qo_Y {post : SY → Prop} (ks os oa ob oc fr : Nat → Int32) (di fa : Nat → Int64) (wk nx : Nat → Int32) {nm op : Nat → Int32} {K A B C : Nat → Nat} (Y : qy_C ks os oa ob oc K A B C nm op) (G : qp_G K A B C) {s : Nat} (hs : s < 36) (hK : K s = 5) (hf : qp_fit A B s = true)
    (h : ∀ fr' : Nat → Int32, (∀ j, j < 36 → fr' j = (if qp_ins j s (qp_end A B s) = true then nI s else fr j)) → post (ks, os, oa, ob, oc, fr', di, fa, wk, nx)) : wpY_take post (ks, os, oa, ob, oc, fr, di, fa, wk, nx) (nI s) := by
  have g := G s hs
  have g2 := g.2.2.2.2 (Or.inr hK)
  have gA := g.2.1
  have gB := g.2.2.1
  have y := Y s hs
  have hf2 := qp_fitI.mp hf
  refine ⟨qn_in hs, qn_6, qn_in hs, qn_6, qn_in hs, qn_6, qn_in hs, qn_6, qm_Y ?_⟩
  rw [qn_cl hs, qy_a Y hs (by omega), y.2.2.1, qn_d6 (a := A s) (by omega), qn_d6 (a := B s) (by omega), qn_m6' (a := A s) (by omega), qn_m6' (a := B s) (by omega), pk_sub g2.1, pk_sub g2.2]
  rcases qm_ok (a := s) hs (nI_toInt (n := B s / 6 - A s / 6) (by omega)) (nI_toInt (n := B s % 6 - A s % 6) (by omega)) (by omega) (by omega) with ⟨b, hb, e, e1, e2⟩ | ⟨e, hn⟩
  · have he : b = qp_end A B s := by
      unfold qp_end
      omega
    rw [e]
    rw [← he] at h
    refine loop_0 (fun n i (f : Nat → Int32) => wY_take_46 post (nI s) (nI b) n (nI i) ks os oa ob oc f di fa wk nx) (fun i f => ∀ j, j < 36 → f j = (if (decide (j < i) && qp_ins j s b) = true then nI s else fr j)) 36 fr (fun j hj => rfl) ?_ ?_
    · intro n f hI
      refine br_t qn_le (h f (fun j hj => ?_))
      rw [hI j hj, decide_eq_true hj, Bool.true_and]
    · intro n i f hi hI IH
      refine br_f (qn_ge hi) (qi_insB hi hs hb (fun q => nm_r (nI_1 i) (IH f (fun j hj => ?_))) (fun q => ⟨qn_in hi, nm_e (nm_r (nI_1 i) (IH _ (fun j hj => ?_)))⟩))
      · rw [hI j hj]
        by_cases ej : j = i
        · subst ej; rw [q, Bool.and_false, Bool.and_false]
        · have z : (j < i) ↔ (j < i + 1) := by omega
          rw [decide_eq_decide.mpr z]
      · rw [qn_cl hi]
        by_cases ej : j = i
        · subst ej; rw [pk_us, q, decide_eq_true (Nat.lt_succ_self j)]; rfl
        · have z : (j < i) ↔ (j < i + 1) := by omega
          rw [pk_un ej, hI j hj, decide_eq_decide.mpr z]
  · exact absurd hn (by omega)
theorem qs_Y {post : SY → Prop} (ks os oa ob oc fr : Nat → Int32) (di fa : Nat → Int64) (wk nx : Nat → Int32) {nm op : Nat → Int32} {K A B C : Nat → Nat} (Y : qy_C ks os oa ob oc K A B C nm op) (G : qp_G K A B C)
    (h : ∀ fr' : Nat → Int32, (∀ j, j < 36 → fr' j = qp_oi (qp_W K A B j)) → post (ks, os, oa, ob, oc, fr', di, fa, wk, nx)) : wpY_settle post (ks, os, oa, ob, oc, fr, di, fa, wk, nx) := by
  refine loop_0 (fun n i (f : Nat → Int32) => wY_settle_2 post n (nI i) ks os oa ob oc f di fa wk nx) (fun i f => ∀ j, j < i → f j = -2) 36 fr (fun j hj => absurd hj (Nat.not_lt_zero j)) ?_ ?_
  · intro n f hI
    refine br_t qn_le ?_
    refine loop_0 (fun n i (f : Nat → Int32) => wY_settle_24 post n (nI i) ks os oa ob oc f di fa wk nx) (fun i f => ∀ j, j < 36 → f j = qp_oi (qp_ow K A B i j)) 36 f hI ?_ ?_
    · intro n f hI
      exact br_t qn_le (h f hI)
    · intro n i f hi hI IH
      have y := Y i hi
      have gK := (G i hi).1
      refine br_f (qn_ge hi) ⟨qn_in hi, ?_⟩
      rw [qn_cl hi, y.1]
      by_cases k5 : K i = 5
      · refine br_t (by rw [k5]; rfl) ?_
        refine qa_Y ks os oa ob oc f di fa wk nx Y G (W := qp_ow K A B i) hI (fun j => Nat.le_trans (qp_ow_le K A B i j) (by omega)) hi k5 (fun c => ?_) (fun c => ?_)
        · refine br_t rfl (nm_r (nI_1 i) (IH f ?_))
          rw [qp_owN (K := K) (A := A) (B := B) (n := i) (fun z => by rw [c] at z; exact absurd z.2 (by decide))]
          exact hI
        · refine br_f (by decide) ?_
          refine qo_Y ks os oa ob oc f di fa wk nx Y G hi k5 (qp_canI c).1 (fun f' hf' => ?_)
          refine nm_r (nI_1 i) (IH f' (fun j hj => ?_))
          rw [hf' j hj, qp_owS (K := K) (A := A) (B := B) (n := i) ⟨k5, c⟩ j]
          by_cases z : qp_ins j i (qp_end A B i) = true
          · rw [if_pos z, if_pos z]; rfl
          · rw [if_neg z, if_neg z]; exact hI j hj
      · refine br_f (fun z => k5 ((qn_eq (b := 5) (by omega) (by omega)).mp z)) (nm_r (nI_1 i) (IH f ?_))
        rw [qp_owN (K := K) (A := A) (B := B) (n := i) (fun z => k5 z.1)]
        exact hI
  · intro n i f hi hI IH
    refine br_f (qn_ge hi) ⟨qn_in hi, nm_e (nm_r (nI_1 i) (IH _ (fun j hj => ?_)))⟩
    rw [qn_cl hi]
    by_cases e : j = i
    · subst e; rw [pk_us]
    · rw [pk_un e]; exact hI j (by omega)
theorem qh_S {post : Int32 → Prop} (ks os oa ob oc fr : Nat → Int32) (di fa : Nat → Int64) (wk nx : Nat → Int32) {nm op : Nat → Int32} {K A B C : Nat → Nat} (Y : qy_C ks os oa ob oc K A B C nm op) (G : qp_G K A B C) (hO : ∀ j, j < 36 → fr j = qp_oi (qp_W K A B j)) {c : Nat} (hc : c < 36) (h : post (qp_si A (qp_W K A B) c)) : wpY_shown post (ks, os, oa, ob, oc, fr, di, fa, wk, nx) (nI c) := by
  refine ⟨qn_in hc, nm_e ?_⟩
  rw [qn_cl hc, hO c hc]
  refine ek_if (qp_oiP (qp_Wle K A B c)) (fun w => ?_) (fun w => ?_)
  · obtain ⟨s, hs, e1, e2, e3, e4, e5, e6, e7, e8, e9, e10, e11, e12⟩ := qp_own G (Nat.le_refl 36) hc w
    have e1' : qp_W K A B c = s + 1 := e1
    have e6' : qp_sh A (qp_W K A B) c = A s + (c - s) := e6
    rw [qp_si1 w, e6'] at h
    rw [e1', qp_oi1]
    refine ⟨qn_in hs, qn_6, qn_6, qn_6, qn_6, qm_Y ?_⟩
    rw [qn_cl hs, qy_a Y hs (by omega), qn_d6 (a := c) (by omega), qn_d6 (a := s) (by omega), qn_m6' (a := c) (by omega), qn_m6' (a := s) (by omega), pk_sub e10, pk_sub e11]
    rcases qm_ok (a := A s) e12 (nI_toInt (n := c / 6 - s / 6) (by omega)) (nI_toInt (n := c % 6 - s % 6) (by omega)) (by omega) (by omega) with ⟨b, hb, e, d1, d2⟩ | ⟨e, hn⟩
    · rw [e]
      have eb : b = A s + (c - s) := by omega
      rw [eb]
      exact h
    · exact absurd hn (by omega)
  · have w0 : qp_W K A B c = 0 := Classical.not_not.mp w
    unfold qp_si at h
    rw [if_pos w0] at h
    exact h
theorem qn_b0 : narrow .boolean (.int 0) = .int 0 := by
  have h := lw_bz_n 0
  rw [show lw_bz 0 = 0 from if_pos rfl] at h
  exact h
theorem qn_b1 : narrow .boolean (.int 1) = .int 1 := by
  have h := lw_bz_n 1
  rw [show lw_bz 1 = 1 from if_neg (by decide)] at h
  exact h
theorem qr_Y {post : Int32 → Prop} (ks os oa ob oc fr : Nat → Int32) (di fa : Nat → Int64) (wk nx : Nat → Int32) {nm op : Nat → Int32} {K A B C : Nat → Nat} (Y : qy_C ks os oa ob oc K A B C nm op) (G : qp_G K A B C) (hO : ∀ j, j < 36 → fr j = qp_oi (qp_W K A B j)) {c d : Nat} (hc : c < 36) (hd : d < 36) (h0 : qp_D K A B C (qp_W K A B) c d = false → post 0) (h1 : qp_D K A B C (qp_W K A B) c d = true → post 1) : wpY_reads post (ks, os, oa, ob, oc, fr, di, fa, wk, nx) (nI c) (nI d) := by
  have g := G c hc
  have y := Y c hc
  refine ⟨qn_in hc, ?_⟩
  rw [qn_cl hc, hO c hc, y.1, y.2.2.1, y.2.2.2.1]
  refine ek_if (qp_oiL (qp_Wle K A B c)) (fun w => ⟨qn_in hc, br_c (fun k => ⟨qn_in hc, ?_⟩) (fun k2 => ⟨qn_in hc, br_c (fun k => ⟨qn_in hc, qn_in hc, ?_⟩) (fun k3 => ⟨qn_in hc, br_c (fun k => ⟨qn_in hc, ?_⟩) (fun k4 => ?_)⟩)⟩)⟩) (fun w => ?_)
  · have k' : K c = 2 := (qn_eq (b := 2) (by omega) (by omega)).mp k
    rw [qy_a Y hc (by omega), qn_eq (by omega) (by omega), qn_eq (by omega) (by omega)]
    rw [qp_D_2 w k'] at h0 h1
    refine br_c (fun e => h1 ?_) (fun e => ⟨qn_in hc, br_c (fun e2 => h1 ?_) (fun e2 => h0 ?_)⟩)
    · rw [decide_eq_true e.symm]; rfl
    · rw [decide_eq_true e2.symm, Bool.or_true]
    · rw [decide_eq_false (fun z => e z.symm), decide_eq_false (fun z => e2 z.symm)]; rfl
  · have k' : K c = 3 := (qn_eq (b := 3) (by omega) (by omega)).mp k
    rw [qp_D_3 w k'] at h0 h1
    rw [qy_a Y hc (by omega)]
    exact qi_ins hd g.2.1 g.2.2.1 (fun f => ⟨qn_b0, h0 f⟩) (fun f => ⟨qn_b1, h1 f⟩)
  · have k' : K c = 4 := (qn_eq (b := 4) (by omega) (by omega)).mp k
    rw [qy_a Y hc (by omega), qn_eq (by omega) (by omega), qn_eq (by omega) (by omega), qn_eq (by omega) (by omega)]
    rw [qp_D_4 w k'] at h0 h1
    refine br_c (fun e => h1 ?_) (fun e => ⟨qn_in hc, br_c (fun e2 => h1 ?_) (fun e2 => ⟨qn_in hc, br_c (fun e3 => h1 ?_) (fun e3 => h0 ?_)⟩)⟩)
    · rw [decide_eq_true e.symm]; rfl
    · rw [decide_eq_true e2.symm, Bool.or_true]; rfl
    · rw [decide_eq_true e3.symm, Bool.or_true]
    · rw [decide_eq_false (fun z => e z.symm), decide_eq_false (fun z => e2 z.symm), decide_eq_false (fun z => e3 z.symm)]; rfl
  · refine h0 (qp_D_n w ⟨fun z => k2 (by rw [z]; rfl), fun z => k3 (by rw [z]; rfl), fun z => k4 (by rw [z]; rfl)⟩ d)
  · rw [qp_D_sh w] at h0 h1
    refine qh_S ks os oa ob oc fr di fa wk nx Y G hO hc ?_
    have hl := qp_shL G hc w
    rw [qp_si1 w, qn_eq (by omega) (by omega)]
    exact br_c (fun e => h1 (decide_eq_true e.symm)) (fun e => h0 (decide_eq_false (fun z => e z.symm)))
/-- widen: T0 at the pass's beginning, T now, the cells below i through -/
def qu_I (F T0 : Nat → Nat → Bool) (i : Nat) (x : Int32) (fa : Nat → Int64) : Prop :=
  ∃ T : Nat → Nat → Bool, (∀ j, j < 36 → qb_m (fa j) (T j)) ∧ (∀ c d, c < 36 → d < 36 → T0 c d = true → T c d = true) ∧ (∀ c d, c < 36 → d < 36 → T c d = true → F c d = true) ∧ (∀ c k d, c < i → k < 36 → d < 36 → T0 c k = true → T0 k d = true → T c d = true) ∧ (x = 0 → ∀ c d, c < 36 → d < 36 → T c d = T0 c d) ∧ (x = 0 ∨ x = 1)
def qu_r (T : Nat → Nat → Bool) (i c : Nat) : Nat → Bool := if c = i then (fun e => T i e || qe_x (fun k => T i k && T k e) 36) else T c
theorem qu_ri (T : Nat → Nat → Bool) (i : Nat) : qu_r T i i = (fun e => T i e || qe_x (fun k => T i k && T k e) 36) := if_pos rfl
theorem qu_rn (T : Nat → Nat → Bool) {i c : Nat} (h : ¬ c = i) : qu_r T i c = T c := if_neg h
theorem qu_Y {post : Int32 → SY → Prop} (ks os oa ob oc fr : Nat → Int32) (di fa : Nat → Int64) (wk nx : Nat → Int32) {F T0 : Nat → Nat → Bool} (hT : ∀ j, j < 36 → qb_m (fa j) (T0 j)) (hF : ∀ c d, c < 36 → d < 36 → T0 c d = true → F c d = true) (tr : ∀ c k d, c < 36 → k < 36 → d < 36 → F c k = true → F k d = true → F c d = true)
    (h : ∀ (r : Int32) (fa' : Nat → Int64), qu_I F T0 36 r fa' → post r (ks, os, oa, ob, oc, fr, di, fa', wk, nx)) : wpY_widen post (ks, os, oa, ob, oc, fr, di, fa, wk, nx) := by
  refine loop_0 (fun n i (t : Int32 × (Nat → Int64)) => wY_widen_4 post n t.1 (nI i) ks os oa ob oc fr di t.2 wk nx) (fun i t => i ≤ 36 ∧ qu_I F T0 i t.1 t.2) 36 (0, fa) ?_ ?_ ?_
  · exact ⟨by omega, T0, hT, fun _ _ _ _ h => h, hF, fun c _ _ hc => absurd hc (Nat.not_lt_zero c), fun _ _ _ _ _ => rfl, Or.inl rfl⟩
  · intro n t hI
    refine br_t qn_le ⟨?_, h t.1 t.2 hI.2⟩
    obtain ⟨T, _, _, _, _, _, hx⟩ := hI.2
    rcases hx with hx | hx
    · rw [hx]; exact qn_b0
    · rw [hx]; exact qn_b1
  · intro n i t hi hI IH
    obtain ⟨T, m, a1, a2, a3, a4, a5⟩ := hI.2
    refine br_f (qn_ge hi) ⟨qn_in hi, nm_e ?_⟩
    rw [qn_cl hi]
    refine loop_0 (fun n2 d (x : Int64) => wY_widen_20 post (wY_widen_4 post n) t.1 (nI i) ks os oa ob oc fr di t.2 wk nx n2 x (nI d)) (fun d x => qb_m x (fun e => T i e || qe_x (fun k => T i k && T k e) d)) 36 (t.2 i) (qb_mc (m i hi) (fun e _ => (Bool.or_false _).symm)) ?_ ?_
    · intro n2 x hx
      have new : ∀ (y : Int32), (y = 0 → t.1 = 0 ∧ x = t.2 i) → (y = 0 ∨ y = 1) → qu_I F T0 (i + 1) y (vp_updL t.2 i x) := by
        intro y hy0 hy1
        refine ⟨qu_r T i, fun j hj => ?_, fun c d hc hd h0 => ?_, fun c d hc hd h0 => ?_, fun c k d hc hk hd b1 b2 => ?_, fun hy c d hc hd => ?_, hy1⟩
        · by_cases e : j = i
          · subst e; rw [pk_uLs, qu_ri]; exact hx
          · rw [pk_uLn e, qu_rn T e]; exact m j hj
        · by_cases e : c = i
          · subst e; rw [qu_ri]
            show (T c d || _) = true
            rw [a1 c d hc hd h0]; rfl
          · rw [qu_rn T e]; exact a1 c d hc hd h0
        · by_cases e : c = i
          · subst e; rw [qu_ri] at h0
            have h0' : (T c d || qe_x (fun k => T c k && T k d) 36) = true := h0
            rw [Bool.or_eq_true, qe_iff] at h0'
            rcases h0' with h0' | ⟨k, hk, hkk⟩
            · exact a2 c d hc hd h0'
            · rw [Bool.and_eq_true] at hkk
              exact tr c k d hc hk hd (a2 c k hc hk hkk.1) (a2 k d hk hd hkk.2)
          · rw [qu_rn T e] at h0; exact a2 c d hc hd h0
        · by_cases e : c = i
          · subst e; rw [qu_ri]
            show (T c d || qe_x (fun k => T c k && T k d) 36) = true
            rw [Bool.or_eq_true, qe_iff]
            exact Or.inr ⟨k, hk, by rw [a1 c k hi hk b1, a1 k d hk hd b2]; rfl⟩
          · rw [qu_rn T e]; exact a3 c k d (by omega) hk hd b1 b2
        · obtain ⟨y1, y2⟩ := hy0 hy
          by_cases e : c = i
          · subst e; rw [qu_ri]
            rw [y2] at hx
            have p := qb_mt hx hd
            rw [qb_mt (m c hc) hd] at p
            rw [← a4 y1 c d hc hd]
            exact p.symm
          · rw [qu_rn T e]; exact a4 y1 c d hc hd
      refine br_t qn_le ⟨qn_in hi, ?_⟩
      rw [qn_cl hi]
      refine br_c (fun e => ⟨qn_in hi, nm_e (nm_r (nI_1 i) (IH (t.1, vp_updL t.2 i x) ⟨by omega, new t.1 (fun z => ⟨z, e⟩) a5⟩))⟩) (fun e => ⟨qn_in hi, nm_e (nm_r (nI_1 i) (IH (1, vp_updL t.2 i x) ⟨by omega, new 1 (fun z => absurd z (by decide)) (Or.inr rfl)⟩))⟩)
    · intro n2 d x hd hx IH2
      refine br_f (qn_ge hd) ⟨qn_in hi, ?_⟩
      rw [qn_cl hi]
      refine qh_YB (m i hi) hd (fun f => nm_r (nI_1 d) (IH2 x (qb_mc hx (fun e _ => ?_)))) (fun f => ⟨qn_in hd, nm_e (nm_r (nI_1 d) (IH2 _ ?_))⟩)
      · show _ = (T i e || (qe_x (fun k => T i k && T k e) d || (T i d && T d e)))
        rw [f, Bool.false_and, Bool.or_false]
      · rw [qn_cl hd]
        refine qb_mc (qb_mor hx (m d hd)) (fun e _ => ?_)
        show _ = (T i e || (qe_x (fun k => T i k && T k e) d || (T i d && T d e)))
        rw [f, Bool.true_and, Bool.or_assoc]
/-- between the passes of trace -/
def qt_I (D : Nat → Nat → Bool) (k : Nat) (x : Int32) (fa : Nat → Int64) : Prop :=
  ∃ T : Nat → Nat → Bool, (∀ j, j < 36 → qb_m (fa j) (T j)) ∧ (∀ c d, c < 36 → d < 36 → qw_m D k c d = true → T c d = true) ∧ (∀ c d, c < 36 → d < 36 → T c d = true → qf_F D c d = true) ∧ (x = 0 → ∀ c k d, c < 36 → k < 36 → d < 36 → T c k = true → T k d = true → T c d = true)
theorem qt_e1 {D : Nat → Nat → Bool} {x : Int32} {fa : Nat → Int64} (h : qt_I D 36 x fa) : ∀ j, j < 36 → qb_m (fa j) (qf_F D j) := by
  obtain ⟨T, m, a1, a2, _⟩ := h
  intro j hj
  refine qb_mc (m j hj) (fun d hd => ?_)
  cases e : T j d with
  | true => exact (a2 j d hj hd e).symm
  | false =>
    cases f : qf_F D j d with
    | false => rfl
    | true => rw [a1 j d hj hd f] at e; cases e
theorem qt_e0 {D : Nat → Nat → Bool} {k : Nat} {fa : Nat → Int64} (h : qt_I D k 0 fa) : ∀ j, j < 36 → qb_m (fa j) (qf_F D j) := by
  obtain ⟨T, m, a1, a2, a3⟩ := h
  intro j hj
  refine qb_mc (m j hj) (fun d hd => ?_)
  cases e : T j d with
  | true => exact (a2 j d hj hd e).symm
  | false =>
    cases f : qf_F D j d with
    | false => rfl
    | true =>
      have z := qw_min (D := D) (fun c d => c < 36 → d < 36 → T c d = true) (fun c d q hc hd => a1 c d hc hd (qw_D q k)) (fun c k d hk q1 q2 hc hd => a3 rfl c k d hc hk hd (q1 hc hk) (q2 hk hd)) 36 (Nat.le_refl _) f hj hd
      rw [e] at z; cases z
theorem qt_Y {post : SY → Prop} (ks os oa ob oc fr : Nat → Int32) (di fa : Nat → Int64) (wk nx : Nat → Int32) {nm op : Nat → Int32} {K A B C : Nat → Nat} (Y : qy_C ks os oa ob oc K A B C nm op) (G : qp_G K A B C)
    (h : ∀ (fr' : Nat → Int32) (di' fa' : Nat → Int64), (∀ j, j < 36 → fr' j = qp_oi (qp_W K A B j)) → (∀ j, j < 36 → qb_m (di' j) (qp_D K A B C (qp_W K A B) j)) → (∀ j, j < 36 → qb_m (fa' j) (qf_F (qp_D K A B C (qp_W K A B)) j)) → post (ks, os, oa, ob, oc, fr', di', fa', wk, nx)) : wpY_trace post (ks, os, oa, ob, oc, fr, di, fa, wk, nx) := by
  unfold wpY_trace
  dsimp only
  refine qs_Y ks os oa ob oc fr di fa wk nx Y G (fun fr' hO => ?_)
  refine loop_0 (fun n i (t : (Nat → Int64) × (Nat → Int64)) => wY_trace_6 post n (nI i) ks os oa ob oc fr' t.1 t.2 wk nx) (fun i t => ∀ j, j < i → qb_m (t.1 j) (qp_D K A B C (qp_W K A B) j) ∧ qb_m (t.2 j) (qp_D K A B C (qp_W K A B) j)) 36 (di, fa) (fun j hj => absurd hj (Nat.not_lt_zero j)) ?_ ?_
  · intro n t hI
    refine br_t qn_le ?_
    refine loop_0 (fun n k (s : Int32 × (Nat → Int64)) => wY_trace_80 post n s.1 (nI k) ks os oa ob oc fr' t.1 s.2 wk nx) (fun k s => qt_I (qp_D K A B C (qp_W K A B)) k s.1 s.2) 36 (1, t.2) ?_ ?_ ?_
    · exact ⟨_, fun j hj => (hI j hj).2, fun _ _ _ _ q => q, fun _ _ _ _ q => qf_D q, fun z => absurd (show (1 : Int32) = 0 from z) (by decide)⟩
    · intro n s hS
      exact br_t qn_le (h fr' t.1 s.2 hO (fun j hj => (hI j hj).1) (qt_e1 hS))
    · intro n k s hk hS IH
      refine br_f (qn_ge hk) (br_c (fun z => ?_) (fun z => ?_))
      · rw [z] at hS
        exact h fr' t.1 s.2 hO (fun j hj => (hI j hj).1) (qt_e0 hS)
      · obtain ⟨T, m, a1, a2, a3⟩ := hS
        refine qu_Y (post := _) ks os oa ob oc fr' t.1 s.2 wk nx (F := qf_F (qp_D K A B C (qp_W K A B))) (T0 := T) m a2 (fun c k d _ hk _ q1 q2 => qf_tr hk q1 q2) (fun r fa' hu => ?_)
        refine nm_r (nI_1 k) (IH (r, fa') ?_)
        obtain ⟨T', m', b1, b2, b3, b4, b5⟩ := hu
        refine ⟨T', m', fun c d hc hd q => ?_, b2, fun hr c k d hc hk hd q1 q2 => ?_⟩
        · rw [qw_si] at q
          rcases q with q | ⟨q1, q2⟩
          · exact b1 c d hc hd (a1 c d hc hd q)
          · exact b3 c k d hc hk hd (a1 c k hc hk q1) (a1 k d hk hd q2)
        · have e := b4 hr
          rw [e c k hc hk] at q1
          rw [e k d hk hd] at q2
          exact b3 c k d hc hk hd q1 q2
  · intro n i t hi hI IH
    refine br_f (qn_ge hi) ⟨qn_in hi, nm_e ?_⟩
    rw [qn_cl hi]
    refine loop_0 (fun n2 d (s : Nat → Int64) => wY_trace_21 post (wY_trace_6 post n) (nI i) n2 (nI d) ks os oa ob oc fr' s t.2 wk nx) (fun d s => (∀ j, j < i → qb_m (s j) (qp_D K A B C (qp_W K A B) j)) ∧ qb_m (s i) (fun e => decide (e < d) && qp_D K A B C (qp_W K A B) i e)) 36 (vp_updL t.1 i 0) ⟨fun j hj => ?_, ?_⟩ ?_ ?_
    · rw [pk_uLn (by omega)]; exact (hI j hj).1
    · rw [pk_uLs]; exact qb_mc qb_m0 (fun e _ => rfl)
    · intro n2 s hs
      refine br_t qn_le ⟨qn_in hi, qn_in hi, nm_e (nm_r (nI_1 i) (IH (s, vp_updL t.2 (nI i).toNatClampNeg (s (nI i).toNatClampNeg)) (fun j hj => ?_)))⟩
      have si := qb_mc hs.2 (Q := qp_D K A B C (qp_W K A B) i) (fun e he => by rw [decide_eq_true he, Bool.true_and])
      show qb_m (s j) _ ∧ qb_m (vp_updL t.2 (nI i).toNatClampNeg (s (nI i).toNatClampNeg) j) _
      rw [qn_cl hi]
      by_cases e : j = i
      · subst e; rw [pk_uLs]; exact ⟨si, si⟩
      · rw [pk_uLn e]; exact ⟨hs.1 j (by omega), (hI j (by omega)).2⟩
    · intro n2 d s hd hs IH2
      refine br_f (qn_ge hd) ?_
      refine qr_Y ks os oa ob oc fr' s t.2 wk nx Y G hO hi hd (fun f => br_t rfl (nm_r (nI_1 d) (IH2 s ⟨hs.1, qj_i hs.2 f⟩))) (fun f => br_f (by decide) ⟨qn_in hi, qn_in hi, nm_e (nm_r (nI_1 d) (IH2 _ ⟨fun j hj => ?_, ?_⟩))⟩)
      · rw [qn_cl hi, pk_uLn (by omega)]; exact hs.1 j hj
      · rw [qn_cl hi, pk_uLs]; exact qj_t hd hs.2 f
theorem qp_Y {post : Int32 → Prop} (ks os oa ob oc fr : Nat → Int32) (di fa : Nat → Int64) (wk nx : Nat → Int32) {nm op : Nat → Int32} {K A B C : Nat → Nat} (Y : qy_C ks os oa ob oc K A B C nm op) (G : qp_G K A B C) (hO : ∀ j, j < 36 → fr j = qp_oi (qp_W K A B j)) {c : Nat} (hc : c < 36) (h0 : qp_sp K (qp_W K A B) c = false → post 0) (h1 : qp_sp K (qp_W K A B) c = true → post 1) : wpY_spoilt post (ks, os, oa, ob, oc, fr, di, fa, wk, nx) (nI c) := by
  have g := G c hc
  have y := Y c hc
  refine ⟨qn_in hc, ?_⟩
  rw [qn_cl hc, y.1, hO c hc]
  refine br_c (fun k => h1 (qp_spI.mpr (Or.inl ((qn_eq (b := 6) (by omega) (by omega)).mp k)))) (fun k6 => ⟨qn_in hc, br_c (fun k => ⟨qn_in hc, ?_⟩) (fun k5 => h0 ?_)⟩)
  · have k' : K c = 5 := (qn_eq (b := 5) (by omega) (by omega)).mp k
    refine ek_if (qp_oiE (qp_Wle K A B c) hc) (fun w => h0 ?_) (fun w => h1 ?_)
    · refine Bool.eq_false_iff.mpr (fun z => ?_)
      rw [qp_spI] at z
      omega
    · refine qp_spI.mpr (Or.inr ⟨k', ?_⟩)
      by_cases w0 : qp_W K A B c = 0
      · exact w0
      · obtain ⟨s, hs, e1, e2, e3, _⟩ := qp_own G (Nat.le_refl 36) hc w0
        have e1' : qp_W K A B c = s + 1 := e1
        omega
  · refine Bool.eq_false_iff.mpr (fun z => ?_)
    rcases qp_spI.mp z with z | z
    · exact k6 (by rw [z]; rfl)
    · exact k5 (by rw [z.1]; rfl)
theorem qf_Y {post : Int32 → Prop} (ks os oa ob oc fr : Nat → Int32) (di fa : Nat → Int64) (wk nx : Nat → Int32) {nm op : Nat → Int32} {K A B C : Nat → Nat} {D : Nat → Nat → Bool} (Y : qy_C ks os oa ob oc K A B C nm op) (G : qp_G K A B C) (hO : ∀ j, j < 36 → fr j = qp_oi (qp_W K A B j)) (hF : ∀ j, j < 36 → qb_m (fa j) (qf_F D j)) {c : Nat} (hc : c < 36) (h : post (nI (qp_st D K (qp_W K A B) c))) : wpY_stateOf post (ks, os, oa, ob, oc, fr, di, fa, wk, nx) (nI c) := by
  have g := G c hc
  have y := Y c hc
  have P2 : qf_c D c = true → post 2 := fun z => by rw [qp_st2.mpr z] at h; exact h
  unfold wpY_stateOf
  dsimp only
  refine ⟨qn_in hc, ?_⟩
  rw [qn_cl hc]
  refine qh_YB (hF c hc) hc (fun f0 => ?_) (fun t0 => P2 (qf_ci.mpr (Or.inl t0)))
  have main : ∀ z : Bool, qp_sp K (qp_W K A B) c = z → ∃ n24 : Nat, wY_stateOf_24 post (nI c) ks os oa ob oc fr di fa wk nx n24 (if z = true then 1 else 0) 0 := by
    intro z hz
    refine loop_0 (fun n i (x : Int32) => wY_stateOf_24 post (nI c) ks os oa ob oc fr di fa wk nx n x (nI i)) (fun i x => x = (if (qp_sp K (qp_W K A B) c || qe_x (fun d => qf_F D c d && qp_sp K (qp_W K A B) d) i) = true then 1 else 0) ∧ ∀ d, d < i → qf_F D c d = true → qf_F D d d = false) 36 _ ⟨by rw [hz]; show _ = if (z || false) = true then _ else _; rw [Bool.or_false], fun d hd => absurd hd (Nat.not_lt_zero d)⟩ ?_ ?_
    · intro n x hx
      have nc : qf_c D c = false := qf_nc.mpr ⟨f0, hx.2⟩
      have hx1 : x = if qp_bad D K (qp_W K A B) c = true then 1 else 0 := hx.1
      unfold qp_st at h
      rw [nc, if_neg (by decide)] at h
      refine br_t qn_le ?_
      rw [qn_cl hc, y.1, hO c hc]
      refine br_c (fun e => ⟨qn_in hc, br_c (fun k => ⟨qn_in hc, ek_if (qp_oiP (qp_Wle K A B c)) (fun w => ?_) (fun w => ?_)⟩) (fun k => ?_)⟩) (fun e => ?_)
      · rw [if_neg (fun q => by rw [if_pos q] at hx1; rw [hx1] at e; exact absurd e (by decide)), if_neg (fun q => w q.2)] at h
        exact h
      · have k' : K c = 0 := (qn_eq (b := 0) (by omega) (by omega)).mp k
        rw [if_neg (fun q => by rw [if_pos q] at hx1; rw [hx1] at e; exact absurd e (by decide)), if_pos ⟨k', Classical.not_not.mp w⟩] at h
        exact h
      · rw [if_neg (fun q => by rw [if_pos q] at hx1; rw [hx1] at e; exact absurd e (by decide)), if_neg (fun q => k (by rw [q.1]; rfl))] at h
        exact h
      · rw [if_pos (Classical.byContradiction (fun q => by rw [if_neg q] at hx1; exact e hx1))] at h
        exact h
    · intro n i x hi hx IH
      have H60 : (qf_F D c i = true → qf_F D i i = false) → wY_stateOf_60 post (wY_stateOf_24 post (nI c) ks os oa ob oc fr di fa wk nx n) (nI c) x (nI i) ks os oa ob oc fr di fa wk nx := by
        intro hci
        refine ⟨qn_in hc, ?_⟩
        rw [qn_cl hc]
        refine qh_YB (hF c hc) hi (fun f => nm_r (nI_1 i) (IH x ⟨?_, lt_s hx.2 hci⟩)) (fun f => ?_)
        · rw [hx.1]
          show _ = if (qp_sp K (qp_W K A B) c || (qe_x (fun d => qf_F D c d && qp_sp K (qp_W K A B) d) i || (qf_F D c i && qp_sp K (qp_W K A B) i))) = true then (1 : Int32) else 0
          rw [f, Bool.false_and, Bool.or_false]
        · refine qp_Y ks os oa ob oc fr di fa wk nx Y G hO hi (fun s0 => br_t rfl (nm_r (nI_1 i) (IH x ⟨?_, lt_s hx.2 hci⟩))) (fun s1 => br_f (by decide) (nm_r (nI_1 i) (IH 1 ⟨?_, lt_s hx.2 hci⟩)))
          · rw [hx.1]
            show _ = if (qp_sp K (qp_W K A B) c || (qe_x (fun d => qf_F D c d && qp_sp K (qp_W K A B) d) i || (qf_F D c i && qp_sp K (qp_W K A B) i))) = true then (1 : Int32) else 0
            rw [s0, Bool.and_false, Bool.or_false]
          · show _ = if (qp_sp K (qp_W K A B) c || (qe_x (fun d => qf_F D c d && qp_sp K (qp_W K A B) d) i || (qf_F D c i && qp_sp K (qp_W K A B) i))) = true then (1 : Int32) else 0
            rw [s1, f, Bool.true_and, Bool.or_true, Bool.or_true, if_pos rfl]
      refine br_f (qn_ge hi) ⟨qn_in hc, ?_⟩
      rw [qn_cl hc]
      refine qh_YB (hF c hc) hi (fun f => H60 (fun z => by rw [f] at z; cases z)) (fun f => ⟨qn_in hi, ?_⟩)
      rw [qn_cl hi]
      exact qh_YB (hF i hi) hi (fun f2 => H60 (fun _ => f2)) (fun f2 => P2 (qf_ci.mpr (Or.inr ⟨i, hi, f, f2⟩)))
  refine qp_Y ks os oa ob oc fr di fa wk nx Y G hO hc (fun s0 => ?_) (fun s1 => ?_)
  · have m := main false s0
    rw [if_neg (by decide)] at m
    exact m
  · have m := main true s1
    rw [if_pos rfl] at m
    exact m
end
section
/-! Y: reckon, values, deeper, depth's loops; both sides' loops of the questions -/
theorem qk_R {post : Int32 → Prop} (ks os oa ob oc fr : Nat → Int32) (di fa : Nat → Int64) (wk nx : Nat → Int32) {nm op : Nat → Int32} {K A B C : Nat → Nat} (Y : qy_C ks os oa ob oc K A B C nm op) (G : qp_G K A B C) (hO : ∀ j, j < 36 → fr j = qp_oi (qp_W K A B j)) {c : Nat} (hc : c < 36) (hv : qp_W K A B c ≠ 0 ∨ K c = 1 ∨ K c = 2 ∨ K c = 3 ∨ K c = 4) (h : post (qp_ev K A B C (qp_W K A B) nm op wk c)) : wpY_reckon post (ks, os, oa, ob, oc, fr, di, fa, wk, nx) (nI c) := by
  have g := G c hc
  have y := Y c hc
  unfold qp_ev at h
  refine ⟨qn_in hc, ?_⟩
  rw [qn_cl hc, hO c hc, y.1, y.2.2.1, y.2.2.2.1]
  refine ek_if (qp_oiL (qp_Wle K A B c)) (fun w => ⟨qn_in hc, br_c (fun k => ⟨qn_in hc, ?_⟩) (fun k1 => ⟨qn_in hc, br_c (fun k => ?_) (fun k2 => ⟨qn_in hc, br_c (fun k => ?_) (fun k4 => ?_)⟩)⟩)⟩) (fun w => ?_)
  · have k' : K c = 1 := (qn_eq (b := 1) (by omega) (by omega)).mp k
    rw [if_neg (by omega), if_pos k'] at h
    rw [y.2.1, if_pos k']
    exact h
  · have k' : K c = 2 := (qn_eq (b := 2) (by omega) (by omega)).mp k
    rw [if_neg (by omega), if_neg (by omega), if_pos k'] at h
    rw [qy_a Y hc (by omega), qn_cl g.2.1, qn_cl g.2.2.1, y.2.2.2.2 k']
    exact ⟨qn_in hc, qn_in hc, qn_in g.2.1, qn_in hc, qn_in g.2.2.1, qk_Y h⟩
  · have k' : K c = 4 := (qn_eq (b := 4) (by omega) (by omega)).mp k
    rw [if_neg (by omega), if_neg (by omega), if_neg (by omega), if_pos k'] at h
    rw [qy_a Y hc (by omega), qn_cl g.2.1, qn_cl g.2.2.1, qn_cl g.2.2.2.1]
    refine ⟨qn_in hc, qn_in g.2.1, br_c (fun y => ⟨qn_in hc, qn_in g.2.2.2.1, ?_⟩) (fun y => ⟨qn_in hc, qn_in g.2.2.1, ?_⟩)⟩
    · rw [if_pos y] at h; exact h
    · rw [if_neg y] at h; exact h
  · have k' : K c = 3 := by
      rcases hv with z | z | z | z | z
      · exact absurd w z
      · exact absurd (by rw [z]; rfl) k1
      · exact absurd (by rw [z]; rfl) k2
      · exact z
      · exact absurd (by rw [z]; rfl) k4
    rw [if_neg (by omega), if_neg (by omega), if_neg (by omega), if_neg (by omega), if_pos k'] at h
    refine loop_0 (fun n i (s : Int32) => wY_reckon_134 post (nI c) ks os oa ob oc fr di fa wk nx n s (nI i)) (fun i s => s = qs_m (fun d => qp_ins d (A c) (B c)) wk i) 36 0 rfl ?_ ?_
    · intro n s hI
      refine br_t qn_le ?_
      rw [hI]; exact h
    · intro n i s hi hI IH
      refine br_f (qn_ge hi) ⟨qn_in hc, qn_in hc, ?_⟩
      rw [qn_cl hc, qy_a Y hc (by omega), y.2.2.1]
      refine qi_insB hi g.2.1 g.2.2.1 (fun f => nm_r (nI_1 i) (IH s ?_)) (fun t => ⟨qn_in hi, nm_e (nm_r (nI_1 i) (IH _ ?_))⟩)
      · show s = if qp_ins i (A c) (B c) = true then _ else _
        rw [if_neg (by rw [f]; decide)]; exact hI
      · show s + wk (nI i).toNatClampNeg = if qp_ins i (A c) (B c) = true then _ else _
        rw [if_pos t, qn_cl hi, hI]
  · rw [if_pos w] at h
    refine qh_S ks os oa ob oc fr di fa wk nx Y G hO hc ?_
    rw [qp_si1 w, qn_cl (qp_shL G hc w)]
    exact ⟨qn_in (qp_shL G hc w), h⟩
/-- the passes of values: pass p, the cells below i through -/
def qv_I (D : Nat → Nat → Bool) (E : (Nat → Int32) → Nat → Int32) (S : Nat → Nat) (p i : Nat) (x : Int32) (V : Nat → Int32) : Prop :=
  qy_I D E p i V ∧ (∀ c, c < 36 → S c ≠ 1 → V c = 0) ∧ (x = 0 → ∀ c, c < i → V c = E V c)
theorem qn_40 {i : Nat} (h : i < 40) : ¬ (40 : Int32) ≤ nI i := nI_ge (b := 40) h (by decide)
theorem qv_Y {post : SY → Prop} (ks os oa ob oc fr : Nat → Int32) (di fa : Nat → Int64) (wk nx : Nat → Int32) {nm op : Nat → Int32} {K A B C : Nat → Nat} (Y : qy_C ks os oa ob oc K A B C nm op) (G : qp_G K A B C)
    (h : ∀ (fr' : Nat → Int32) (di' fa' : Nat → Int64) (wk' nx' : Nat → Int32), (∀ j, j < 36 → wk' j = qv_V (qp_E (qp_D K A B C (qp_W K A B)) K A B C (qp_W K A B) nm op) j) → post (ks, os, oa, ob, oc, fr', di', fa', wk', nx')) : wpY_values post (ks, os, oa, ob, oc, fr, di, fa, wk, nx) := by
  have EL := qp_EL G nm op
  unfold wpY_values
  dsimp only
  refine qt_Y ks os oa ob oc fr di fa wk nx Y G (fun fr' di' fa' hO hD hF => ?_)
  generalize hDD : qp_D K A B C (qp_W K A B) = D at *
  generalize hEE : qp_E D K A B C (qp_W K A B) nm op = E at *
  have E1 : ∀ (V : Nat → Int32) (c : Nat), qp_st D K (qp_W K A B) c = 1 → E V c = qp_ev K A B C (qp_W K A B) nm op V c := by
    intro V c hs
    rw [← hEE]
    unfold qp_E
    rw [if_pos hs]
  have E0 : ∀ (V : Nat → Int32) (c : Nat), ¬ qp_st D K (qp_W K A B) c = 1 → E V c = 0 := by
    intro V c hs
    rw [← hEE]
    unfold qp_E
    rw [if_neg hs]
  have V0 : ∀ c, qf_c D c = true → qv_V E c = 0 := by
    intro c hc
    have s2 := qp_st2 (K := K) (W := qp_W K A B) |>.mpr hc
    show E _ c = 0
    exact E0 _ c (by omega)
  refine loop_0 (fun n i (t : (Nat → Int32) × (Nat → Int32)) => wY_values_6 post n (nI i) ks os oa ob oc fr' di' fa' t.1 t.2) (fun i t => ∀ j, j < i → t.1 j = 0 ∧ t.2 j = nI (qp_st D K (qp_W K A B) j)) 36 (wk, nx) (fun j hj => absurd hj (Nat.not_lt_zero j)) ?_ ?_
  · intro n t hI
    refine br_t qn_le ?_
    refine loop_0 (fun n p (s : Int32 × (Nat → Int32)) => wY_values_40 post n s.1 (nI p) ks os oa ob oc fr' di' fa' s.2 t.2) (fun p s => qy_I D E p 0 s.2 ∧ (∀ c, c < 36 → qp_st D K (qp_W K A B) c ≠ 1 → s.2 c = 0) ∧ (s.1 = 0 → ∀ c, c < 36 → s.2 c = E s.2 c)) 40 (1, t.1) ?_ ?_ ?_
    · exact ⟨qy_0, fun c hc _ => (hI c hc).1, fun z => absurd (show (1 : Int32) = 0 from z) (by decide)⟩
    · intro n s hS
      refine br_t (by decide) (h fr' di' fa' s.2 t.2 (fun j hj => ?_))
      cases hc : qf_c D j with
      | false => exact qy_e hS.1 (by omega) hj hc
      | true =>
        have s2 := qp_st2 (K := K) (W := qp_W K A B) |>.mpr hc
        rw [hS.2.1 j hj (by omega), V0 j hc]
    · intro n p s hp hS IH
      refine br_f (qn_40 hp) (br_c (fun z => ?_) (fun z => ?_))
      · refine h fr' di' fa' s.2 t.2 (fun j hj => ?_)
        cases hc : qf_c D j with
        | false => exact qv_un EL (fun c h36 _ => hS.2.2 z c h36) (qf_r D j) j hj hc (Nat.le_refl _)
        | true =>
          have s2 := qp_st2 (K := K) (W := qp_W K A B) |>.mpr hc
          rw [hS.2.1 j hj (by omega), V0 j hc]
      · refine loop_0 (fun n2 i (s : Int32 × (Nat → Int32)) => wY_values_54 post (wY_values_40 post n) (nI p) n2 s.1 (nI i) ks os oa ob oc fr' di' fa' s.2 t.2) (fun i s => qv_I D E (qp_st D K (qp_W K A B)) p i s.1 s.2) 36 (0, s.2) ⟨hS.1, hS.2.1, fun _ c hc => absurd hc (Nat.not_lt_zero c)⟩ ?_ ?_
        · intro n2 s2 hI2
          exact br_t qn_le (nm_r (nI_1 p) (IH s2 ⟨qy_p hI2.1, hI2.2.1, hI2.2.2⟩))
        · intro n2 i s2 hi hI2 IH2
          have gK := (G i hi).1
          have sle := qp_st_le D K (qp_W K A B) i
          have H79 : ∀ z : Int32, z = E s2.2 i → wY_values_79 post (wY_values_40 post n) (wY_values_54 post (wY_values_40 post n) (nI p) n2) s2.1 (nI p) (nI i) z ks os oa ob oc fr' di' fa' s2.2 t.2 := by
            intro z hz
            have nw : ∀ y : Int32, (y = 0 → s2.1 = 0 ∧ z = s2.2 i) → qv_I D E (qp_st D K (qp_W K A B)) p (i + 1) y (upd s2.2 i z) := by
              intro y hy
              refine ⟨qy_s EL hI2.1 hi (fun _ => hz), fun c hc hs => ?_, fun y0 c hc => ?_⟩
              · by_cases e : c = i
                · subst e; rw [pk_us, hz]; exact E0 _ c hs
                · rw [pk_un e]; exact hI2.2.1 c hc hs
              · obtain ⟨y1, y2⟩ := hy y0
                have same : ∀ d, upd s2.2 i z d = s2.2 d := by
                  intro d
                  by_cases e : d = i
                  · subst e; rw [pk_us]; exact y2
                  · rw [pk_un e]
                rw [same c, EL (upd s2.2 i z) s2.2 c (by omega) (fun d _ _ => same d)]
                by_cases e : c = i
                · subst e; rw [← y2]; exact hz
                · exact hI2.2.2 y1 c (by omega)
            refine ⟨qn_in hi, ?_⟩
            rw [qn_cl hi]
            exact br_c (fun e => ⟨qn_in hi, nm_e (nm_r (nI_1 i) (IH2 (s2.1, upd s2.2 i z) (nw s2.1 (fun q => ⟨q, e⟩))))⟩) (fun e => ⟨qn_in hi, nm_e (nm_r (nI_1 i) (IH2 (1, upd s2.2 i z) (nw 1 (fun q => absurd q (by decide)))))⟩)
          refine br_f (qn_ge hi) ⟨qn_in hi, ?_⟩
          rw [qn_cl hi, (hI i hi).2]
          refine br_c (fun s1 => ?_) (fun s1 => H79 0 ?_)
          · have s1' : qp_st D K (qp_W K A B) i = 1 := (qn_eq (b := 1) (by omega) (by omega)).mp s1
            exact qk_R ks os oa ob oc fr' di' fa' s2.2 t.2 Y G hO hi (qp_st1 gK s1') (H79 _ (E1 _ i s1').symm)
          · exact (E0 _ i (fun e => s1 (by rw [e]; rfl))).symm
  · intro n i t hi hI IH
    refine br_f (qn_ge hi) ⟨qn_in hi, nm_e ?_⟩
    refine qf_Y ks os oa ob oc fr' di' fa' (upd t.1 (nI i).toNatClampNeg 0) t.2 Y G hO hF hi ⟨qn_in hi, nm_e (nm_r (nI_1 i) (IH (upd t.1 (nI i).toNatClampNeg 0, upd t.2 (nI i).toNatClampNeg (nI (qp_st D K (qp_W K A B) i))) ?_))⟩
    intro j hj
    rw [qn_cl hi]
    show upd t.1 i 0 j = 0 ∧ upd t.2 i _ j = _
    by_cases e : j = i
    · subst e; rw [pk_us, pk_us]; exact ⟨rfl, rfl⟩
    · rw [pk_un e, pk_un e]; exact hI j (by omega)
theorem qd_Y {post : Int32 → Prop} (ks os oa ob oc fr : Nat → Int32) (di fa : Nat → Int64) (wk nx : Nat → Int32) {P : Nat → Bool} {c : Nat} (hc : c < 36) (m : qb_m (di c) P) (h : post (1 + qd_m P wk 36)) : wpY_deeper post (ks, os, oa, ob, oc, fr, di, fa, wk, nx) (nI c) := by
  refine loop_0 (fun n i (s : Int32) => wY_deeper_4 post (nI c) ks os oa ob oc fr di fa wk nx n s (nI i)) (fun i s => s = qd_m P wk i) 36 0 rfl ?_ ?_
  · intro n s hI
    refine br_t qn_le ?_
    rw [hI, Int32.add_comm]; exact h
  · intro n i s hi hI IH
    refine br_f (qn_ge hi) ⟨qn_in hc, ?_⟩
    rw [qn_cl hc]
    refine qh_YB m hi (fun f => nm_r (nI_1 i) (IH s ?_)) (fun t => ⟨qn_in hi, ?_⟩)
    · show s = if P i = true then _ else _
      rw [if_neg (by rw [f]; decide)]; exact hI
    · rw [qn_cl hi]
      refine br_c (fun c => nm_r (nI_1 i) (IH s ?_)) (fun c => ⟨qn_in hi, nm_e (nm_r (nI_1 i) (IH _ ?_))⟩)
      · show s = if P i = true then (if wk i ≤ qd_m P wk i then _ else _) else _
        rw [if_pos t, ← hI, if_pos c]
      · show wk i = if P i = true then (if wk i ≤ qd_m P wk i then _ else _) else _
        rw [if_pos t, ← hI, if_neg c]
theorem qD_Y {post : Int32 → SY → Prop} (ks os oa ob oc fr : Nat → Int32) (di fa : Nat → Int64) (wk nx : Nat → Int32) {D : Nat → Nat → Bool} (hD : ∀ j, j < 36 → qb_m (di j) (D j)) (hF : ∀ j, j < 36 → qb_m (fa j) (qf_F D j)) {c : Nat} (hc : c < 36) (hn : qf_c D c = false)
    (h : ∀ wk' : Nat → Int32, post (qv_V (qp_P D) c) (ks, os, oa, ob, oc, fr, di, fa, wk', nx)) : ∃ n28 : Nat, wY_depth_28 post (nI c) n28 0 ks os oa ob oc fr di fa wk nx := by
  refine loop_0 (fun n i (w : Nat → Int32) => wY_depth_28 post (nI c) n (nI i) ks os oa ob oc fr di fa w nx) (fun _ _ => True) 36 wk trivial ?_ ?_
  · intro n w _
    refine br_t qn_le ?_
    refine loop_0 (fun n p (w : Nat → Int32) => wY_depth_49 post (nI c) n (nI p) ks os oa ob oc fr di fa w nx) (fun p w => qy_I D (qp_P D) p 0 w) 36 w qy_0 ?_ ?_
    · intro n w hI
      refine br_t qn_le ⟨qn_in hc, ?_⟩
      rw [qn_cl hc, qy_e hI (Nat.le_refl _) hc hn]
      exact h w
    · intro n p w hp hI IH
      refine br_f (qn_ge hp) ?_
      refine loop_0 (fun n2 i (w : Nat → Int32) => wY_depth_57 post (wY_depth_49 post (nI c) n) (nI c) (nI p) n2 (nI i) ks os oa ob oc fr di fa w nx) (fun i w => qy_I D (qp_P D) p i w) 36 w hI ?_ ?_
      · intro n2 w2 hI2
        exact br_t qn_le (nm_r (nI_1 p) (IH w2 (qy_p hI2)))
      · intro n2 i w2 hi hI2 IH2
        refine br_f (qn_ge hi) ⟨qn_in hi, ?_⟩
        rw [qn_cl hi]
        refine qh_YB (hF i hi) hi (fun f => qd_Y ks os oa ob oc fr di fa w2 nx hi (hD i hi) ⟨qn_in hi, nm_e (nm_r (nI_1 i) (IH2 _ ?_))⟩) (fun f => ⟨qn_in hi, nm_e (nm_r (nI_1 i) (IH2 _ ?_))⟩)
        · exact qy_s (qp_PL D) hI2 hi (fun _ => rfl)
        · refine qy_s (qp_PL D) hI2 hi (fun z => ?_)
          have z2 := (qf_nc.mp z).1
          rw [f] at z2
          cases z2
  · intro n i w hi _ IH
    exact br_f (qn_ge hi) ⟨qn_in hi, nm_e (nm_r (nI_1 i) (IH _ trivial))⟩
/-- readers -/
theorem qR_X {post : Int64 → Prop} (kd nm op fi se th ow sh : Nat → Int32) (dr so : Nat → Int64) (st vl dp : Nat → Int32) {F : Nat → Nat → Bool} (hF : ∀ j, j < 36 → qb_m (so j) (F j)) {c : Nat} (hc : c < 36) (h : ∀ x, qb_m x (fun d => F d c) → post x) : ∃ n16 : Nat, wX_readers_16 post (nI c) kd nm op fi se th ow sh dr so st vl dp n16 0 0 := by
  refine loop_0 (fun n i (x : Int64) => wX_readers_16 post (nI c) kd nm op fi se th ow sh dr so st vl dp n x (nI i)) (fun i x => qb_m x (fun d => decide (d < i) && F d c)) 36 0 (qb_mc qb_m0 (fun _ _ => rfl)) ?_ ?_
  · intro n x hx
    exact br_t qn_le (h x (qb_mc hx (fun e he => by rw [decide_eq_true he, Bool.true_and])))
  · intro n i x hi hx IH
    refine br_f (qn_ge hi) ⟨qn_in hi, ?_⟩
    rw [qn_cl hi]
    exact qh_XB (hF i hi) hc (fun f => nm_r (nI_1 i) (IH x (qj_i (P := fun d => F d c) hx f))) (fun f => nm_e (nm_r (nI_1 i) (IH _ (qj_t (P := fun d => F d c) hi hx f))))
theorem qR_Y {post : Int64 → SY → Prop} (ks os oa ob oc fr : Nat → Int32) (di fa : Nat → Int64) (wk nx : Nat → Int32) {F : Nat → Nat → Bool} (hF : ∀ j, j < 36 → qb_m (fa j) (F j)) {c : Nat} (hc : c < 36) (h : ∀ x, qb_m x (fun d => F d c) → post x (ks, os, oa, ob, oc, fr, di, fa, wk, nx)) : ∃ n21 : Nat, wY_readers_21 post (nI c) ks os oa ob oc fr di fa wk nx n21 0 0 := by
  refine loop_0 (fun n i (x : Int64) => wY_readers_21 post (nI c) ks os oa ob oc fr di fa wk nx n x (nI i)) (fun i x => qb_m x (fun d => decide (d < i) && F d c)) 36 0 (qb_mc qb_m0 (fun _ _ => rfl)) ?_ ?_
  · intro n x hx
    exact br_t qn_le (h x (qb_mc hx (fun e he => by rw [decide_eq_true he, Bool.true_and])))
  · intro n i x hi hx IH
    refine br_f (qn_ge hi) ⟨qn_in hi, ?_⟩
    rw [qn_cl hi]
    exact qh_YB (hF i hi) hc (fun f => nm_r (nI_1 i) (IH x (qj_i (P := fun d => F d c) hx f))) (fun f => nm_e (nm_r (nI_1 i) (IH _ (qj_t (P := fun d => F d c) hi hx f))))
/-- inState -/
def qI_n (S : Nat → Nat) (x : Int32) : Nat → Int32
  | 0 => 0
  | n + 1 => if nI (S n) = x then qI_n S x n + 1 else qI_n S x n
theorem qI_X {post : Int32 → Prop} (kd nm op fi se th ow sh : Nat → Int32) (dr so : Nat → Int64) (st vl dp : Nat → Int32) {S : Nat → Nat} (hT : ∀ j, j < 36 → st j = nI (S j)) {x : Int32} (h : post (qI_n S x 36)) : ∃ n15 : Nat, wX_inState_15 post x kd nm op fi se th ow sh dr so st vl dp n15 0 0 := by
  refine loop_0 (fun n i (s : Int32) => wX_inState_15 post x kd nm op fi se th ow sh dr so st vl dp n s (nI i)) (fun i s => s = qI_n S x i) 36 0 rfl ?_ ?_
  · intro n s hs
    refine br_t qn_le ?_
    rw [hs]; exact h
  · intro n i s hi hs IH
    refine br_f (qn_ge hi) ⟨qn_in hi, ?_⟩
    rw [qn_cl hi, hT i hi]
    refine br_c (fun e => nm_e (nm_r (nI_1 i) (IH _ ?_))) (fun e => nm_r (nI_1 i) (IH s ?_))
    · show s + 1 = if nI (S i) = x then _ else _
      rw [if_pos e, hs]
    · show s = if nI (S i) = x then _ else _
      rw [if_neg e]; exact hs
theorem qI_Y {post : Int32 → SY → Prop} (ks os oa ob oc fr : Nat → Int32) (di fa : Nat → Int64) (wk nx : Nat → Int32) {nm op : Nat → Int32} {K A B C : Nat → Nat} {D : Nat → Nat → Bool} (Y : qy_C ks os oa ob oc K A B C nm op) (G : qp_G K A B C) (hO : ∀ j, j < 36 → fr j = qp_oi (qp_W K A B j)) (hF : ∀ j, j < 36 → qb_m (fa j) (qf_F D j)) {x : Int32} (h : post (qI_n (qp_st D K (qp_W K A B)) x 36) (ks, os, oa, ob, oc, fr, di, fa, wk, nx)) : ∃ n19 : Nat, wY_inState_19 post x ks os oa ob oc fr di fa wk nx n19 0 0 := by
  refine loop_0 (fun n i (s : Int32) => wY_inState_19 post x ks os oa ob oc fr di fa wk nx n s (nI i)) (fun i s => s = qI_n (qp_st D K (qp_W K A B)) x i) 36 0 rfl ?_ ?_
  · intro n s hs
    refine br_t qn_le ?_
    rw [hs]; exact h
  · intro n i s hi hs IH
    refine br_f (qn_ge hi) (qf_Y ks os oa ob oc fr di fa wk nx Y G hO hF hi ?_)
    refine br_c (fun e => nm_e (nm_r (nI_1 i) (IH _ ?_))) (fun e => nm_r (nI_1 i) (IH s ?_))
    · show s + 1 = if nI (qp_st D K (qp_W K A B) i) = x then _ else _
      rw [if_pos e, hs]
    · show s = if nI (qp_st D K (qp_W K A B) i) = x then _ else _
      rw [if_neg e]; exact hs
/-- total and sum over a rectangle's number -/
theorem qT_Y {post : Int32 → SY → Prop} (ks os oa ob oc fr : Nat → Int32) (di fa : Nat → Int64) (wk nx : Nat → Int32) {q : Nat} (hq : q < 1296) (h : post (qs_m (fun d => qp_ins d (q / 36) (q % 36)) wk 36) (ks, os, oa, ob, oc, fr, di, fa, wk, nx)) : ∃ n18 : Nat, wY_total_18 post (nI q) ks os oa ob oc fr di fa wk nx n18 0 0 := by
  refine loop_0 (fun n i (s : Int32) => wY_total_18 post (nI q) ks os oa ob oc fr di fa wk nx n s (nI i)) (fun i s => s = qs_m (fun d => qp_ins d (q / 36) (q % 36)) wk i) 36 0 rfl ?_ ?_
  · intro n s hs
    refine br_t qn_le ?_
    rw [hs]; exact h
  · intro n i s hi hs IH
    refine br_f (qn_ge hi) ⟨qn_36, qn_36, ?_⟩
    rw [qn_m36 (by omega), qn_d36 (by omega)]
    refine qi_insB hi (by omega) (by omega) (fun f => nm_r (nI_1 i) (IH s ?_)) (fun t => ⟨qn_in hi, nm_e (nm_r (nI_1 i) (IH _ ?_))⟩)
    · show s = if qp_ins i (q / 36) (q % 36) = true then _ else _
      rw [if_neg (by rw [f]; decide)]; exact hs
    · show s + wk (nI i).toNatClampNeg = if qp_ins i (q / 36) (q % 36) = true then _ else _
      rw [if_pos t, qn_cl hi, hs]
theorem qN_Y {post : Int32 → SY → Prop} (ks os oa ob oc fr : Nat → Int32) (di fa : Nat → Int64) (wk nx : Nat → Int32) {q : Nat} (hq : q < 1296) (h : post (nI (qr_n (fun d => qp_ins d (q / 36) (q % 36)) 36)) (ks, os, oa, ob, oc, fr, di, fa, wk, nx)) : ∃ n41 : Nat, wY_sum_41 post (nI q) ks os oa ob oc fr di fa wk nx n41 0 0 := by
  refine loop_0 (fun n i (s : Int32) => wY_sum_41 post (nI q) ks os oa ob oc fr di fa wk nx n s (nI i)) (fun i s => s = nI (qr_n (fun d => qp_ins d (q / 36) (q % 36)) i)) 36 0 rfl ?_ ?_
  · intro n s hs
    refine br_t qn_le ?_
    rw [hs]; exact h
  · intro n i s hi hs IH
    refine br_f (qn_ge hi) ⟨qn_36, qn_36, ?_⟩
    rw [qn_m36 (by omega), qn_d36 (by omega)]
    refine qi_insB hi (by omega) (by omega) (fun f => nm_r (nI_1 i) (IH s ?_)) (fun t => nm_e (nm_r (nI_1 i) (IH _ ?_)))
    · show s = nI (qr_n _ i + if qp_ins i (q / 36) (q % 36) = true then 1 else 0)
      rw [if_neg (by rw [f]; decide)]; exact hs
    · show s + 1 = nI (qr_n _ i + if qp_ins i (q / 36) (q % 36) = true then 1 else 0)
      rw [if_pos t, hs, nI_1]
theorem qN_c : ∀ a, a < 36 → ∀ b, b < 36 → a / 6 ≤ b / 6 → a % 6 ≤ b % 6 → qr_n (fun d => qp_ins d a b) 36 = (b / 6 - a / 6 + 1) * (b % 6 - a % 6 + 1) := by decide +kernel
end
section
/-! the relation, and what a change of one cell does to it -/
def qn_u (f : Nat → Nat) (c x : Nat) : Nat → Nat := fun j => if j = c then x else f j
theorem qn_us {f : Nat → Nat} {c x : Nat} : qn_u f c x c = x := if_pos rfl
theorem qn_un {f : Nat → Nat} {c x j : Nat} (h : j ≠ c) : qn_u f c x j = f j := if_neg h
/-- a broken content names nothing -/
def qp_6 (K A B C : Nat → Nat) : Prop := ∀ j, j < 36 → K j = 6 → A j = 0 ∧ B j = 0 ∧ C j = 0
/-- the relation: both sides hold the same contents; X has worked out what follows from them -/
def i_Rel (_ : Nat) (u : SX) (v : SY) : Prop := match u, v with
  | (kd, nm, op, fi, se, th, ow, sh, dr, so, st, vl, dp), (ks, os, oa, ob, oc, fr, di, fa, wk, nx) => ∃ K A B C : Nat → Nat, qp_G K A B C ∧ qp_6 K A B C ∧ qx_C kd fi se th K A B C ∧ qx_Z K A B C nm op ow sh so st vl dp ∧ qy_C ks os oa ob oc K A B C nm op
theorem i_up {k : Nat} {u : SX} {v : SY} (h : i_Rel k u v) : i_Rel (k + 5) u v := h
theorem qw_X {post : SX → Prop} (kd nm op fi se th ow sh : Nat → Int32) (dr so : Nat → Int64) (st vl dp : Nat → Int32) {c : Nat} (hc : c < 36) {p1 p2 p3 p4 : Int32} (h : post ((upd kd c p1), nm, op, (upd fi c p2), (upd se c p3), (upd th c p4), ow, sh, dr, so, st, vl, dp)) : wpX_write post (kd, nm, op, fi, se, th, ow, sh, dr, so, st, vl, dp) (nI c) p1 p2 p3 p4 := by
  refine ⟨qn_in hc, nm_e ⟨qn_in hc, nm_e ⟨qn_in hc, nm_e ⟨qn_in hc, nm_e ?_⟩⟩⟩⟩
  rw [qn_cl hc]
  exact h
theorem qw_Y {post : SY → Prop} (ks os oa ob oc fr : Nat → Int32) (di fa : Nat → Int64) (wk nx : Nat → Int32) {c : Nat} (hc : c < 36) {p1 p2 p3 p4 : Int32} (h : post ((upd ks c p1), (upd os c 0), (upd oa c p2), (upd ob c p3), (upd oc c p4), fr, di, fa, wk, nx)) : wpY_fill post (ks, os, oa, ob, oc, fr, di, fa, wk, nx) (nI c) p1 p2 p3 p4 := by
  refine ⟨qn_in hc, nm_e ⟨qn_in hc, nm_e ⟨qn_in hc, nm_e ⟨qn_in hc, nm_e ⟨qn_in hc, nm_e ?_⟩⟩⟩⟩⟩
  rw [qn_cl hc]
  exact h
theorem qg_u {K A B C : Nat → Nat} (G : qp_G K A B C) {c k a b d : Nat} (hk : k ≤ 6) (ha : a < 36) (hb : b < 36) (hd : d < 36) (hg : k = 3 ∨ k = 5 → a / 6 ≤ b / 6 ∧ a % 6 ≤ b % 6) : qp_G (qn_u K c k) (qn_u A c a) (qn_u B c b) (qn_u C c d) := by
  intro j hj
  by_cases e : j = c
  · subst e; rw [qn_us, qn_us, qn_us, qn_us]; exact ⟨hk, ha, hb, hd, hg⟩
  · rw [qn_un e, qn_un e, qn_un e, qn_un e]; exact G j hj
theorem q6_u {K A B C : Nat → Nat} (H : qp_6 K A B C) {c k a b d : Nat} (h6 : k = 6 → a = 0 ∧ b = 0 ∧ d = 0) : qp_6 (qn_u K c k) (qn_u A c a) (qn_u B c b) (qn_u C c d) := by
  intro j hj
  by_cases e : j = c
  · subst e; rw [qn_us, qn_us, qn_us, qn_us]; exact h6
  · rw [qn_un e, qn_un e, qn_un e, qn_un e]; exact H j hj
theorem qx_u {kd fi se th : Nat → Int32} {K A B C : Nat → Nat} (X : qx_C kd fi se th K A B C) (c k a b d : Nat) : qx_C (upd kd c (nI k)) (upd fi c (nI a)) (upd se c (nI b)) (upd th c (nI d)) (qn_u K c k) (qn_u A c a) (qn_u B c b) (qn_u C c d) := by
  intro j hj
  by_cases e : j = c
  · subst e; rw [qn_us, qn_us, qn_us, qn_us, pk_us, pk_us, pk_us, pk_us]; exact ⟨rfl, rfl, rfl, rfl⟩
  · rw [qn_un e, qn_un e, qn_un e, qn_un e, pk_un e, pk_un e, pk_un e, pk_un e]; exact X j hj
theorem qy_u {ks os oa ob oc : Nat → Int32} {K A B C : Nat → Nat} {nm op : Nat → Int32} (Y : qy_C ks os oa ob oc K A B C nm op) (c k a b d : Nat) {os' nm' op' : Nat → Int32} {x : Int32} (hx : x = if k = 1 then nm' c else nI a) (hn : ∀ j, j ≠ c → nm' j = nm j) (ho : ∀ j, j ≠ c → op' j = op j) (hs : ∀ j, j ≠ c → os' j = os j) (h2 : k = 2 → os' c = op' c) : qy_C (upd ks c (nI k)) os' (upd oa c x) (upd ob c (nI b)) (upd oc c (nI d)) (qn_u K c k) (qn_u A c a) (qn_u B c b) (qn_u C c d) nm' op' := by
  intro j hj
  by_cases e : j = c
  · subst e; rw [qn_us, qn_us, qn_us, qn_us, pk_us, pk_us, pk_us, pk_us]; exact ⟨rfl, hx, rfl, rfl, h2⟩
  · rw [qn_un e, qn_un e, qn_un e, qn_un e, pk_un e, pk_un e, pk_un e, pk_un e, hn j e, ho j e, hs j e]; exact Y j hj
theorem i_vc0 : wpX_init (fun u => wpY_init (fun v => i_Rel 0 u v)) := by
  unfold wpX_init
  have G : qp_G (fun _ => 0) (fun _ => 0) (fun _ => 0) (fun _ => 0) := fun j hj => ⟨Nat.zero_le 6, Nat.zero_lt_succ 35, Nat.zero_lt_succ 35, Nat.zero_lt_succ 35, fun _ => ⟨Nat.le_refl _, Nat.le_refl _⟩⟩
  have X : qx_C (fun _ => 0) (fun _ => 0) (fun _ => 0) (fun _ => 0) (fun _ => 0) (fun _ => 0) (fun _ => 0) (fun _ => 0) := fun j hj => ⟨rfl, rfl, rfl, rfl⟩
  refine qx_S (fun _ => 0) (fun _ => 0) (fun _ => 0) (fun _ => 0) (fun _ => 0) (fun _ => 0) (fun _ => 0) (fun _ => 0) (fun _ => 0) (fun _ => 0) (fun _ => 0) (fun _ => 0) (fun _ => 0) X G (fun ow' sh' dr' so' st' vl' dp' Z => ?_)
  exact ⟨fun _ => 0, fun _ => 0, fun _ => 0, fun _ => 0, G, fun _ _ _ => ⟨rfl, rfl, rfl⟩, X, Z, fun j hj => ⟨rfl, rfl, rfl, rfl, fun _ => rfl⟩⟩
end
section
/-! the changes: number, pair, sum, choice, spread, erase -/
theorem i_vc_number {k : Nat} {u : SX} {v : SY} (I : i_Rel k u v) (hk : k + 5 ≤ 2560) (v1 : Int32) (v2 : Int32) : wpX_number (fun r u' => wpY_number (fun r' v' => r' = r ∧ i_Rel (k + 5) u' v') v v1 v2) u v1 v2 := by
  obtain ⟨kd, nm, op, fi, se, th, ow, sh, dr, so, st, vl, dp⟩ := u
  obtain ⟨ks, os, oa, ob, oc, fr, di, fa, wk, nx⟩ := v
  obtain ⟨K, A, B, C, G, H6, X, Z, Y⟩ := I
  have R : i_Rel (k + 5) (kd, nm, op, fi, se, th, ow, sh, dr, so, st, vl, dp) (ks, os, oa, ob, oc, fr, di, fa, wk, nx) := ⟨K, A, B, C, G, H6, X, Z, Y⟩
  unfold wpX_number wpY_number
  dsimp only
  by_cases g : qi_g v1
  · obtain ⟨c, hc, rfl⟩ := g
    refine qi_X1 hc (br_f (by decide) ?_)
    by_cases b1 : v2 < -1000
    · exact br_t b1 (qi_Y1 hc (br_t rfl (br_t b1 ⟨rfl, R⟩)))
    · refine br_f b1 ?_
      by_cases b2 : v2 ≤ 1000
      · refine br_t b2 (qw_X kd nm op fi se th ow sh dr so st vl dp hc ⟨qn_in hc, nm_r (e' := upd nm c v2) (by rw [qn_cl hc]) ?_⟩)
        have G' := qg_u G (c := c) (k := 1) (a := 0) (b := 0) (d := 0) (by omega) (by omega) (by omega) (by omega) (by omega)
        have X' := qx_u X c 1 0 0 0
        refine qx_S (upd kd c (nI 1)) (upd nm c v2) op (upd fi c (nI 0)) (upd se c (nI 0)) (upd th c (nI 0)) ow sh dr so st vl dp X' G' (fun ow' sh' dr' so' st' vl' dp' Z' => ?_)
        have Y' := qy_u Y c 1 0 0 0 (os' := upd os c 0) (nm' := upd nm c v2) (op' := op) (x := v2) (by rw [if_pos rfl, pk_us]) (fun j e => pk_un e) (fun j e => rfl) (fun j e => pk_un e) (fun z => by omega)
        exact qi_Y1 hc (br_t rfl (br_f b1 (br_t b2 (qw_Y ks os oa ob oc fr di fa wk nx hc ⟨rfl, _, _, _, _, G', q6_u H6 (by omega), X', Z', Y'⟩))))
      · exact br_f b2 (qi_Y1 hc (br_t rfl (br_f b1 (br_f b2 ⟨rfl, R⟩))))
  · exact qi_X0 g (br_t rfl (qi_Y0 g (br_f (by decide) ⟨rfl, R⟩)))
theorem i_vc_pair {k : Nat} {u : SX} {v : SY} (I : i_Rel k u v) (hk : k + 5 ≤ 2560) (v1 : Int32) (v2 : Int32) (v3 : Int32) (v4 : Int32) : wpX_pair (fun r u' => wpY_pair (fun r' v' => r' = r ∧ i_Rel (k + 5) u' v') v v1 v2 v3 v4) u v1 v2 v3 v4 := by
  obtain ⟨kd, nm, op, fi, se, th, ow, sh, dr, so, st, vl, dp⟩ := u
  obtain ⟨ks, os, oa, ob, oc, fr, di, fa, wk, nx⟩ := v
  obtain ⟨K, A, B, C, G, H6, X, Z, Y⟩ := I
  have R : i_Rel (k + 5) (kd, nm, op, fi, se, th, ow, sh, dr, so, st, vl, dp) (ks, os, oa, ob, oc, fr, di, fa, wk, nx) := ⟨K, A, B, C, G, H6, X, Z, Y⟩
  unfold wpX_pair wpY_pair
  dsimp only
  by_cases g : qi_g v1
  · obtain ⟨c, hc, rfl⟩ := g
    refine qi_X1 hc (br_f (by decide) ?_)
    by_cases b1 : v2 < 0
    · exact br_t b1 (qi_Y1 hc (br_t rfl (br_t b1 ⟨rfl, R⟩)))
    · refine br_f b1 ?_
      by_cases b2 : v2 < 5
      · have b2' := (qn_c5 v2).mpr b2
        refine br_t b2 ?_
        by_cases ga : qi_g v3
        · obtain ⟨a, ha, rfl⟩ := ga
          refine qi_X1 ha (br_f (by decide) ?_)
          by_cases gb : qi_g v4
          · obtain ⟨b, hb, rfl⟩ := gb
            refine qi_X1 hb (br_f (by decide) ?_)
            refine qw_X kd nm op fi se th ow sh dr so st vl dp hc ⟨qn_in hc, nm_r (e' := upd op c v2) (by rw [qn_cl hc]) ?_⟩
            have G' := qg_u G (c := c) (k := 2) (a := a) (b := b) (d := 0) (by omega) ha hb (by omega) (by omega)
            have X' := qx_u X c 2 a b 0
            refine qx_S (upd kd c (nI 2)) nm (upd op c v2) (upd fi c (nI a)) (upd se c (nI b)) (upd th c (nI 0)) ow sh dr so st vl dp X' G' (fun ow' sh' dr' so' st' vl' dp' Z' => ?_)
            have Y' := qy_u Y c 2 a b 0 (os' := upd (upd os c 0) c v2) (nm' := nm) (op' := upd op c v2) (x := nI a) (by rw [if_neg (by decide)]) (fun j e => rfl) (fun j e => pk_un e) (fun j e => by rw [pk_un e, pk_un e]) (fun z => by rw [pk_us, pk_us])
            exact qi_Y1 hc (br_t rfl (br_f b1 (br_t b2' (qi_Y1 ha (br_t rfl (qi_Y1 hb (br_t rfl (qw_Y ks os oa ob oc fr di fa wk nx hc ⟨qn_in hc, nm_r (e' := upd (upd os c 0) c v2) (by rw [qn_cl hc]) ⟨rfl, _, _, _, _, G', q6_u H6 (by omega), X', Z', Y'⟩⟩))))))))
          · exact qi_X0 gb (br_t rfl (qi_Y1 hc (br_t rfl (br_f b1 (br_t b2' (qi_Y1 ha (br_t rfl (qi_Y0 gb (br_f (by decide) ⟨rfl, R⟩)))))))))
        · exact qi_X0 ga (br_t rfl (qi_Y1 hc (br_t rfl (br_f b1 (br_t b2' (qi_Y0 ga (br_f (by decide) ⟨rfl, R⟩)))))))
      · exact br_f b2 (qi_Y1 hc (br_t rfl (br_f b1 (br_f (fun z => b2 ((qn_c5 v2).mp z)) ⟨rfl, R⟩))))
  · exact qi_X0 g (br_t rfl (qi_Y0 g (br_f (by decide) ⟨rfl, R⟩)))
theorem i_vc_sum {k : Nat} {u : SX} {v : SY} (I : i_Rel k u v) (hk : k + 5 ≤ 2560) (v1 : Int32) (v2 : Int32) : wpX_sum (fun r u' => wpY_sum (fun r' v' => r' = r ∧ i_Rel (k + 5) u' v') v v1 v2) u v1 v2 := by
  obtain ⟨kd, nm, op, fi, se, th, ow, sh, dr, so, st, vl, dp⟩ := u
  obtain ⟨ks, os, oa, ob, oc, fr, di, fa, wk, nx⟩ := v
  obtain ⟨K, A, B, C, G, H6, X, Z, Y⟩ := I
  have R : i_Rel (k + 5) (kd, nm, op, fi, se, th, ow, sh, dr, so, st, vl, dp) (ks, os, oa, ob, oc, fr, di, fa, wk, nx) := ⟨K, A, B, C, G, H6, X, Z, Y⟩
  unfold wpX_sum wpY_sum
  dsimp only
  by_cases g : qi_g v1
  · obtain ⟨c, hc, rfl⟩ := g
    refine qi_X1 hc (br_f (by decide) ?_)
    by_cases gq : qj_g v2
    · obtain ⟨q, hq, rfl⟩ := gq
      obtain ⟨q1, q2, q3⟩ := id hq
      refine qj_X1 hq (br_f (by decide) ⟨qn_36, qn_36, ?_⟩)
      rw [qn_m36 (by omega), qn_d36 (by omega)]
      refine qw_X kd nm op fi se th ow sh dr so st vl dp hc ?_
      have G' := qg_u G (c := c) (k := 3) (a := q / 36) (b := q % 36) (d := 0) (by omega) (by omega) (by omega) (by omega) (fun _ => ⟨q2, q3⟩)
      have X' := qx_u X c 3 (q / 36) (q % 36) 0
      refine qx_S (upd kd c (nI 3)) nm op (upd fi c (nI (q / 36))) (upd se c (nI (q % 36))) (upd th c (nI 0)) ow sh dr so st vl dp X' G' (fun ow' sh' dr' so' st' vl' dp' Z' => ?_)
      refine qx_h (upd kd c (nI 3)) nm op (upd fi c (nI (q / 36))) (upd se c (nI (q % 36))) (upd th c (nI 0)) ow' sh' dr' so' st' vl' dp' X' G' hc (Or.inl qn_us) ?_
      refine qx_w (upd kd c (nI 3)) nm op (upd fi c (nI (q / 36))) (upd se c (nI (q % 36))) (upd th c (nI 0)) ow' sh' dr' so' st' vl' dp' X' G' hc (Or.inl qn_us) ?_
      refine qi_Y1 hc (br_t rfl (qj_Y1 hq (br_t rfl ⟨qn_36, qn_36, qw_Y ks os oa ob oc fr di fa wk nx hc (qN_Y (upd ks c 3) (upd os c 0) (upd oa c (nI (q / 36))) (upd ob c (nI (q % 36))) (upd oc c 0) fr di fa wk nx q1 ⟨?_, _, _, _, _, G', q6_u H6 (by omega), X', Z', ?_⟩)⟩)))
      · rw [qN_c (q / 36) (by omega) (q % 36) (by omega) q2 q3, qn_us, qn_us, pk_mul]
      · exact qy_u Y c 3 (q / 36) (q % 36) 0 (by rw [if_neg (by decide)]) (fun j e => rfl) (fun j e => rfl) (fun j e => pk_un e) (fun z => by omega)
    · exact qj_X0 gq (br_t rfl (qi_Y1 hc (br_t rfl (qj_Y0 gq (br_f (by decide) ⟨rfl, R⟩)))))
  · exact qi_X0 g (br_t rfl (qi_Y0 g (br_f (by decide) ⟨rfl, R⟩)))
theorem i_vc_choice {k : Nat} {u : SX} {v : SY} (I : i_Rel k u v) (hk : k + 5 ≤ 2560) (v1 : Int32) (v2 : Int32) (v3 : Int32) (v4 : Int32) : wpX_choice (fun r u' => wpY_choice (fun r' v' => r' = r ∧ i_Rel (k + 5) u' v') v v1 v2 v3 v4) u v1 v2 v3 v4 := by
  obtain ⟨kd, nm, op, fi, se, th, ow, sh, dr, so, st, vl, dp⟩ := u
  obtain ⟨ks, os, oa, ob, oc, fr, di, fa, wk, nx⟩ := v
  obtain ⟨K, A, B, C, G, H6, X, Z, Y⟩ := I
  have R : i_Rel (k + 5) (kd, nm, op, fi, se, th, ow, sh, dr, so, st, vl, dp) (ks, os, oa, ob, oc, fr, di, fa, wk, nx) := ⟨K, A, B, C, G, H6, X, Z, Y⟩
  unfold wpX_choice wpY_choice
  dsimp only
  by_cases g : qi_g v1
  · obtain ⟨c, hc, rfl⟩ := g
    refine qi_X1 hc (br_f (by decide) ?_)
    by_cases ga : qi_g v2
    · obtain ⟨a, ha, rfl⟩ := ga
      refine qi_X1 ha (br_f (by decide) ?_)
      by_cases gb : qi_g v3
      · obtain ⟨b, hb, rfl⟩ := gb
        refine qi_X1 hb (br_f (by decide) ?_)
        by_cases gd : qi_g v4
        · obtain ⟨d, hd, rfl⟩ := gd
          refine qi_X1 hd (br_f (by decide) ?_)
          refine qw_X kd nm op fi se th ow sh dr so st vl dp hc ?_
          have G' := qg_u G (c := c) (k := 4) (a := a) (b := b) (d := d) (by omega) ha hb hd (by omega)
          have X' := qx_u X c 4 a b d
          refine qx_S (upd kd c (nI 4)) nm op (upd fi c (nI a)) (upd se c (nI b)) (upd th c (nI d)) ow sh dr so st vl dp X' G' (fun ow' sh' dr' so' st' vl' dp' Z' => ?_)
          refine qi_Y1 hc (br_t rfl (qi_Y1 ha (br_t rfl (qi_Y1 hb (br_t rfl (qi_Y1 hd (br_t rfl (qw_Y ks os oa ob oc fr di fa wk nx hc ⟨rfl, _, _, _, _, G', q6_u H6 (by omega), X', Z', ?_⟩))))))))
          exact qy_u Y c 4 a b d (by rw [if_neg (by decide)]) (fun j e => rfl) (fun j e => rfl) (fun j e => pk_un e) (fun z => by omega)
        · exact qi_X0 gd (br_t rfl (qi_Y1 hc (br_t rfl (qi_Y1 ha (br_t rfl (qi_Y1 hb (br_t rfl (qi_Y0 gd (br_f (by decide) ⟨rfl, R⟩)))))))))
      · exact qi_X0 gb (br_t rfl (qi_Y1 hc (br_t rfl (qi_Y1 ha (br_t rfl (qi_Y0 gb (br_f (by decide) ⟨rfl, R⟩)))))))
    · exact qi_X0 ga (br_t rfl (qi_Y1 hc (br_t rfl (qi_Y0 ga (br_f (by decide) ⟨rfl, R⟩)))))
  · exact qi_X0 g (br_t rfl (qi_Y0 g (br_f (by decide) ⟨rfl, R⟩)))
theorem i_vc_spread {k : Nat} {u : SX} {v : SY} (I : i_Rel k u v) (hk : k + 5 ≤ 2560) (v1 : Int32) (v2 : Int32) : wpX_spread (fun r u' => wpY_spread (fun r' v' => r' = r ∧ i_Rel (k + 5) u' v') v v1 v2) u v1 v2 := by
  obtain ⟨kd, nm, op, fi, se, th, ow, sh, dr, so, st, vl, dp⟩ := u
  obtain ⟨ks, os, oa, ob, oc, fr, di, fa, wk, nx⟩ := v
  obtain ⟨K, A, B, C, G, H6, X, Z, Y⟩ := I
  have R : i_Rel (k + 5) (kd, nm, op, fi, se, th, ow, sh, dr, so, st, vl, dp) (ks, os, oa, ob, oc, fr, di, fa, wk, nx) := ⟨K, A, B, C, G, H6, X, Z, Y⟩
  unfold wpX_spread
  dsimp only
  by_cases g : qi_g v1
  · obtain ⟨c, hc, rfl⟩ := g
    refine qi_X1 hc (br_f (by decide) ?_)
    by_cases gq : qj_g v2
    · obtain ⟨q, hq, rfl⟩ := gq
      obtain ⟨q1, q2, q3⟩ := id hq
      refine qj_X1 hq (br_f (by decide) ⟨qn_36, qn_36, ?_⟩)
      rw [qn_m36 (by omega), qn_d36 (by omega)]
      refine qw_X kd nm op fi se th ow sh dr so st vl dp hc ?_
      have G' := qg_u G (c := c) (k := 5) (a := q / 36) (b := q % 36) (d := 0) (by omega) (by omega) (by omega) (by omega) (fun _ => ⟨q2, q3⟩)
      have X' := qx_u X c 5 (q / 36) (q % 36) 0
      have Y' := qy_u Y c 5 (q / 36) (q % 36) 0 (os' := upd os c 0) (nm' := nm) (op' := op) (x := nI (q / 36)) (by rw [if_neg (by decide)]) (fun j e => rfl) (fun j e => rfl) (fun j e => pk_un e) (fun z => by omega)
      refine qx_S (upd kd c (nI 5)) nm op (upd fi c (nI (q / 36))) (upd se c (nI (q % 36))) (upd th c (nI 0)) ow sh dr so st vl dp X' G' (fun ow' sh' dr' so' st' vl' dp' Z' => ⟨qn_in hc, ?_⟩)
      rw [qn_cl hc]
      have HY : ∀ (r : Int32) (Q : Int32 → SY → Prop), (∀ fr' : Nat → Int32, fr' c = ow' c → (fr' c = nI c → Q 1 ((upd ks c (nI 5)), (upd os c 0), (upd oa c (nI (q / 36))), (upd ob c (nI (q % 36))), (upd oc c (nI 0)), fr', di, fa, wk, nx)) ∧ (¬ fr' c = nI c → Q 0 ((upd ks c (nI 5)), (upd os c 0), (upd oa c (nI (q / 36))), (upd ob c (nI (q % 36))), (upd oc c (nI 0)), fr', di, fa, wk, nx))) → wpY_spread Q (ks, os, oa, ob, oc, fr, di, fa, wk, nx) (nI c) (nI q) := by
        intro r Q hQ
        unfold wpY_spread
        dsimp only
        refine qi_Y1 hc (br_t rfl (qj_Y1 hq (br_t rfl ⟨qn_36, qn_36, ?_⟩)))
        rw [qn_m36 (by omega), qn_d36 (by omega)]
        refine qw_Y ks os oa ob oc fr di fa wk nx hc ?_
        refine qs_Y (upd ks c (nI 5)) (upd os c 0) (upd oa c (nI (q / 36))) (upd ob c (nI (q % 36))) (upd oc c (nI 0)) fr di fa wk nx Y' G' (fun fr' hf => ⟨qn_in hc, ?_⟩)
        rw [qn_cl hc]
        exact hQ fr' (by rw [hf c hc, Z'.1 c hc])
      refine br_c (fun e => HY 1 _ (fun fr' hf => br_t (by rw [hf]; exact e) ⟨rfl, _, _, _, _, G', q6_u H6 (by omega), X', Z', Y'⟩)) (fun e => HY 0 _ (fun fr' hf => br_f (by rw [hf]; exact e) ⟨rfl, _, _, _, _, G', q6_u H6 (by omega), X', Z', Y'⟩))
    · refine qj_X0 gq (br_t rfl ?_)
      unfold wpY_spread
      exact qi_Y1 hc (br_t rfl (qj_Y0 gq (br_f (by decide) ⟨rfl, R⟩)))
  · refine qi_X0 g (br_t rfl ?_)
    unfold wpY_spread
    exact qi_Y0 g (br_f (by decide) ⟨rfl, R⟩)
theorem i_vc_erase {k : Nat} {u : SX} {v : SY} (I : i_Rel k u v) (hk : k + 5 ≤ 2560) (v1 : Int32) : wpX_erase (fun r u' => wpY_erase (fun r' v' => r' = r ∧ i_Rel (k + 5) u' v') v v1) u v1 := by
  obtain ⟨kd, nm, op, fi, se, th, ow, sh, dr, so, st, vl, dp⟩ := u
  obtain ⟨ks, os, oa, ob, oc, fr, di, fa, wk, nx⟩ := v
  obtain ⟨K, A, B, C, G, H6, X, Z, Y⟩ := I
  have R : i_Rel (k + 5) (kd, nm, op, fi, se, th, ow, sh, dr, so, st, vl, dp) (ks, os, oa, ob, oc, fr, di, fa, wk, nx) := ⟨K, A, B, C, G, H6, X, Z, Y⟩
  unfold wpX_erase wpY_erase
  dsimp only
  by_cases g : qi_g v1
  · obtain ⟨c, hc, rfl⟩ := g
    have gK := (G c hc).1
    refine qi_X1 hc (br_f (by decide) ⟨qn_in hc, nm_r (e' := nI (K c)) (by rw [qn_cl hc, (X c hc).1]) ?_⟩)
    refine qw_X kd nm op fi se th ow sh dr so st vl dp hc ?_
    have G' := qg_u G (c := c) (k := 0) (a := 0) (b := 0) (d := 0) (by omega) (by omega) (by omega) (by omega) (by omega)
    have X' := qx_u X c 0 0 0 0
    have Y' := qy_u Y c 0 0 0 0 (os' := upd os c 0) (nm' := nm) (op' := op) (x := nI 0) (by rw [if_neg (by decide)]) (fun j e => rfl) (fun j e => rfl) (fun j e => pk_un e) (fun z => by omega)
    refine qx_S (upd kd c (nI 0)) nm op (upd fi c (nI 0)) (upd se c (nI 0)) (upd th c (nI 0)) ow sh dr so st vl dp X' G' (fun ow' sh' dr' so' st' vl' dp' Z' => ?_)
    refine br_c (fun e => ?_) (fun e => ?_)
    · refine qi_Y1 hc (br_t rfl ⟨qn_in hc, nm_r (e' := nI (K c)) (by rw [qn_cl hc, (Y c hc).1]) (qw_Y ks os oa ob oc fr di fa wk nx hc (br_t e ⟨rfl, _, _, _, _, G', q6_u H6 (by omega), X', Z', Y'⟩))⟩)
    · refine qi_Y1 hc (br_t rfl ⟨qn_in hc, nm_r (e' := nI (K c)) (by rw [qn_cl hc, (Y c hc).1]) (qw_Y ks os oa ob oc fr di fa wk nx hc (br_f e ⟨rfl, _, _, _, _, G', q6_u H6 (by omega), X', Z', Y'⟩))⟩)
  · exact qi_X0 g (br_t rfl (qi_Y0 g (br_f (by decide) ⟨rfl, R⟩)))
end
section
/-! copy -/
theorem qX_197 {post : Int32 → SX → Prop} (kd nm op fi se th ow sh : Nat → Int32) (dr so : Nat → Int64) (st vl dp : Nat → Int32) {K A B C : Nat → Nat} (X : qx_C kd fi se th K A B C) (G : qp_G K A B C) {t : Nat} (ht : t < 36)
    (h : ∀ (ow' sh' : Nat → Int32) (dr' so' : Nat → Int64) (st' vl' dp' : Nat → Int32), qx_Z K A B C nm op ow' sh' so' st' vl' dp' → post (if K t = 6 then 1 else 0) (kd, nm, op, fi, se, th, ow', sh', dr', so', st', vl', dp')) : wX_copy_197 post (nI t) kd nm op fi se th ow sh dr so st vl dp := by
  have g := (G t ht).1
  unfold wX_copy_197
  refine qx_S kd nm op fi se th ow sh dr so st vl dp X G (fun ow' sh' dr' so' st' vl' dp' Z' => ⟨qn_in ht, ?_⟩)
  have z := h ow' sh' dr' so' st' vl' dp' Z'
  rw [qn_cl ht, (X t ht).1]
  refine br_c (fun e => ?_) (fun e => ?_)
  · rw [if_pos ((qn_eq (b := 6) (by omega) (by omega)).mp e)] at z; exact z
  · rw [if_neg (fun q => e (by rw [q]; rfl))] at z; exact z
theorem qX_147 {post : Int32 → SX → Prop} (kd nm op fi se th ow sh : Nat → Int32) (dr so : Nat → Int64) (st vl dp : Nat → Int32) {K A B C : Nat → Nat} (X : qx_C kd fi se th K A B C) (G : qp_G K A B C) {t : Nat} (ht : t < 36)
    (h : ∀ (ow' sh' : Nat → Int32) (dr' so' : Nat → Int64) (st' vl' dp' : Nat → Int32), qx_Z (qn_u K t 6) (qn_u A t 0) (qn_u B t 0) (qn_u C t 0) nm op ow' sh' so' st' vl' dp' → post 1 ((upd kd t (nI 6)), nm, op, (upd fi t (nI 0)), (upd se t (nI 0)), (upd th t (nI 0)), ow', sh', dr', so', st', vl', dp')) : wX_copy_147 post (nI t) kd nm op fi se th ow sh dr so st vl dp := by
  unfold wX_copy_147
  refine qw_X kd nm op fi se th ow sh dr so st vl dp ht ?_
  refine qX_197 (upd kd t (nI 6)) nm op (upd fi t (nI 0)) (upd se t (nI 0)) (upd th t (nI 0)) ow sh dr so st vl dp (qx_u X t 6 0 0 0) (qg_u G (by omega) (by omega) (by omega) (by omega) (by omega)) ht (fun ow' sh' dr' so' st' vl' dp' Z' => ?_)
  rw [qn_us, if_pos rfl]
  exact h ow' sh' dr' so' st' vl' dp' Z'
theorem qX_129 {post : Int32 → SX → Prop} (kd nm op fi se th ow sh : Nat → Int32) (dr so : Nat → Int64) (st vl dp : Nat → Int32) {K A B C : Nat → Nat} (X : qx_C kd fi se th K A B C) (G : qp_G K A B C) {f t k a b d : Nat} (hf : f < 36) (ht : t < 36) (hk : k ≤ 6) (ha : a < 36) (hb : b < 36) (hd : d < 36) (hg : k = 3 ∨ k = 5 → a / 6 ≤ b / 6 ∧ a % 6 ≤ b % 6)
    (h : ∀ (ow' sh' : Nat → Int32) (dr' so' : Nat → Int64) (st' vl' dp' : Nat → Int32), qx_Z (qn_u K t k) (qn_u A t a) (qn_u B t b) (qn_u C t d) (upd nm t (nm f)) (upd op t (op f)) ow' sh' so' st' vl' dp' → post (if k = 6 then 1 else 0) ((upd kd t (nI k)), (upd nm t (nm f)), (upd op t (op f)), (upd fi t (nI a)), (upd se t (nI b)), (upd th t (nI d)), ow', sh', dr', so', st', vl', dp')) : wX_copy_129 post (nI f) (nI t) (nI k) (nI a) (nI b) (nI d) kd nm op fi se th ow sh dr so st vl dp := by
  unfold wX_copy_129
  refine br_f (qn_m1 (by omega)) (br_f (qn_m1 (by omega)) (br_f (qn_m1 (by omega)) ?_))
  refine qw_X kd nm op fi se th ow sh dr so st vl dp ht ⟨qn_in hf, qn_in ht, nm_r (e' := upd nm t (nm f)) (by rw [qn_cl ht, qn_cl hf]) ⟨qn_in hf, qn_in ht, nm_r (e' := upd op t (op f)) (by rw [qn_cl ht, qn_cl hf]) ?_⟩⟩
  refine qX_197 (upd kd t (nI k)) (upd nm t (nm f)) (upd op t (op f)) (upd fi t (nI a)) (upd se t (nI b)) (upd th t (nI d)) ow sh dr so st vl dp (qx_u X t k a b d) (qg_u G hk ha hb hd hg) ht (fun ow' sh' dr' so' st' vl' dp' Z' => ?_)
  rw [qn_us]
  exact h ow' sh' dr' so' st' vl' dp' Z'
theorem qY_148a {post : Int32 → SY → Prop} (ks os oa ob oc fr : Nat → Int32) (di fa : Nat → Int64) (wk nx : Nat → Int32) {t k : Nat} (ht : t < 36) (hk : k < 6) {o x5 x6 x7 : Int32}
    (h : ∀ os' : Nat → Int32, (∀ j, j ≠ t → os' j = os j) → (k = 2 → os' t = o) → post 0 ((upd ks t (nI k)), os', (upd oa t x5), (upd ob t x6), (upd oc t x7), fr, di, fa, wk, nx)) : wY_copy_148 post (nI t) (nI k) o x5 x6 x7 ks os oa ob oc fr di fa wk nx := by
  have k6 : ¬ nI k = 6 := fun e => by
    have := (qn_eq (b := 6) (by omega) (by omega)).mp e
    omega
  unfold wY_copy_148
  refine br_f k6 (qw_Y ks os oa ob oc fr di fa wk nx ht ?_)
  refine br_c (fun e => ⟨qn_in ht, nm_r (e' := upd (upd os t 0) t o) (by rw [qn_cl ht]) (br_f k6 (h _ (fun j ne => by rw [pk_un ne, pk_un ne]) (fun _ => pk_us)))⟩) (fun e => br_f k6 (h _ (fun j ne => pk_un ne) (fun z => absurd (by rw [z]; rfl) e)))
theorem qY_148b {post : Int32 → SY → Prop} (ks os oa ob oc fr : Nat → Int32) (di fa : Nat → Int64) (wk nx : Nat → Int32) {t : Nat} (ht : t < 36) {o x5 x6 x7 : Int32}
    (h : post 1 ((upd ks t (nI 6)), (upd os t 0), (upd oa t (nI 0)), (upd ob t (nI 0)), (upd oc t (nI 0)), fr, di, fa, wk, nx)) : wY_copy_148 post (nI t) 6 o x5 x6 x7 ks os oa ob oc fr di fa wk nx := by
  unfold wY_copy_148
  exact br_t rfl (qw_Y ks os oa ob oc fr di fa wk nx ht (br_f (by decide) (br_t rfl h)))
theorem i_vc_copy {k : Nat} {u : SX} {v : SY} (I : i_Rel k u v) (hk : k + 5 ≤ 2560) (v1 : Int32) (v2 : Int32) : wpX_copy (fun r u' => wpY_copy (fun r' v' => r' = r ∧ i_Rel (k + 5) u' v') v v1 v2) u v1 v2 := by
  obtain ⟨kd, nm, op, fi, se, th, ow, sh, dr, so, st, vl, dp⟩ := u
  obtain ⟨ks, os, oa, ob, oc, fr, di, fa, wk, nx⟩ := v
  obtain ⟨K, A, B, C, G, H6, X, Z, Y⟩ := I
  have R : i_Rel (k + 5) (kd, nm, op, fi, se, th, ow, sh, dr, so, st, vl, dp) (ks, os, oa, ob, oc, fr, di, fa, wk, nx) := ⟨K, A, B, C, G, H6, X, Z, Y⟩
  by_cases g : qi_g v1
  · obtain ⟨f, hf, rfl⟩ := g
    by_cases g2 : qi_g v2
    · obtain ⟨t, ht, rfl⟩ := g2
      have g := G f hf
      have x := X f hf
      have y := Y f hf
      have e1 : nI t / 6 - nI f / 6 = nI (t / 6) - nI (f / 6) := by rw [qn_d6 (by omega), qn_d6 (by omega)]
      have e2 : (nI t - nI t / 6 * 6) - (nI f - nI f / 6 * 6) = nI (t % 6) - nI (f % 6) := by rw [qn_m6 (by omega), qn_m6 (by omega)]
      have i1 := pk_sub_toInt (a := t / 6) (b := f / 6) (by omega) (by omega)
      have i2 := pk_sub_toInt (a := t % 6) (b := f % 6) (by omega) (by omega)
      have ek : kd (nI f).toNatClampNeg = nI (K f) := by rw [qn_cl hf, x.1]
      have ea : fi (nI f).toNatClampNeg = nI (A f) := by rw [qn_cl hf, x.2.1]
      have eb : se (nI f).toNatClampNeg = nI (B f) := by rw [qn_cl hf, x.2.2.1]
      have ec : th (nI f).toNatClampNeg = nI (C f) := by rw [qn_cl hf, x.2.2.2]
      have yk : ks (nI f).toNatClampNeg = nI (K f) := by rw [qn_cl hf, y.1]
      have yo : os (nI f).toNatClampNeg = os f := by rw [qn_cl hf]
      have ya : oa (nI f).toNatClampNeg = (if K f = 1 then nm f else nI (A f)) := by rw [qn_cl hf, y.2.1]
      have yb : ob (nI f).toNatClampNeg = nI (B f) := by rw [qn_cl hf, y.2.2.1]
      have yc : oc (nI f).toNatClampNeg = nI (C f) := by rw [qn_cl hf, y.2.2.2.1]
      generalize nI (t / 6) - nI (f / 6) = rows at *
      generalize nI (t % 6) - nI (f % 6) = cols at *
      -- X's walk to its joins
      have PX : ∀ post : Int32 → SX → Prop, ((K f = 2 ∨ K f = 3 ∨ K f = 4 ∨ K f = 5) → wX_copy_93 post (nI f) (nI t) rows cols (nI (K f)) (nI (A f)) (nI (B f)) (nI (C f)) kd nm op fi se th ow sh dr so st vl dp) → (¬ (K f = 2 ∨ K f = 3 ∨ K f = 4 ∨ K f = 5) → wX_copy_113 post (nI f) (nI t) rows cols (nI (K f)) (nI (A f)) (nI (B f)) (nI (C f)) kd nm op fi se th ow sh dr so st vl dp) → wpX_copy post (kd, nm, op, fi, se, th, ow, sh, dr, so, st, vl, dp) (nI f) (nI t) := by
        intro post hA hB
        unfold wpX_copy
        dsimp only
        refine qi_X1 hf (br_f (by decide) (qi_X1 ht (br_f (by decide) ?_)))
        refine ⟨qn_6, qn_6, nm_r e1 ⟨qn_6, qn_6, nm_r e2 ⟨qn_in hf, nm_r ek ⟨qn_in hf, nm_r ea ⟨qn_in hf, nm_r eb ⟨qn_in hf, nm_r ec ?_⟩⟩⟩⟩⟩⟩
        refine br_c (fun e => hA (Or.inl ((qn_eq (b := 2) (by omega) (by omega)).mp e))) (fun n2 => br_c (fun e => hA (Or.inr (Or.inl ((qn_eq (b := 3) (by omega) (by omega)).mp e)))) (fun n3 => br_c (fun e => hA (Or.inr (Or.inr (Or.inl ((qn_eq (b := 4) (by omega) (by omega)).mp e))))) (fun n4 => br_c (fun e => hA (Or.inr (Or.inr (Or.inr ((qn_eq (b := 5) (by omega) (by omega)).mp e))))) (fun n5 => hB ?_))))
        rintro (z | z | z | z)
        · exact n2 (by rw [z]; rfl)
        · exact n3 (by rw [z]; rfl)
        · exact n4 (by rw [z]; rfl)
        · exact n5 (by rw [z]; rfl)
      -- Y's walk to its joins
      have PY : ∀ post : Int32 → SY → Prop, ((K f = 2 ∨ K f = 3 ∨ K f = 4 ∨ K f = 5) → wY_copy_130 post (nI t) (nI (K f)) (os f) (qm_v (nI (A f)) rows cols) (qm_v (nI (B f)) rows cols) (if K f = 4 then qm_v (nI (C f)) rows cols else nI (C f)) ks os oa ob oc fr di fa wk nx) → (¬ (K f = 2 ∨ K f = 3 ∨ K f = 4 ∨ K f = 5) → wY_copy_148 post (nI t) (nI (K f)) (os f) (if K f = 1 then nm f else nI (A f)) (nI (B f)) (nI (C f)) ks os oa ob oc fr di fa wk nx) → wpY_copy post (ks, os, oa, ob, oc, fr, di, fa, wk, nx) (nI f) (nI t) := by
        intro post hA hB
        unfold wpY_copy
        dsimp only
        refine qi_Y1 hf (br_t rfl (qi_Y1 ht (br_t rfl ?_)))
        refine ⟨qn_in hf, nm_r yk ⟨qn_in hf, nm_r yo ⟨qn_in hf, nm_r ya ⟨qn_in hf, nm_r yb ⟨qn_in hf, nm_r yc ⟨qn_6, qn_6, nm_r e1 ⟨qn_6, qn_6, nm_r e2 ?_⟩⟩⟩⟩⟩⟩⟩
        refine br_c (fun e => hB ?_) (fun n2 => br_c (fun e => hB ?_) (fun n5 => ?_))
        · have z : K f < 2 := (qn_lt (b := 2) (by omega) (by omega)).mp e
          omega
        · have z : 5 < K f := (qn_lt (a := 5) (by omega) (by omega)).mp e
          omega
        · have z2 : ¬ K f < 2 := fun q => n2 ((qn_lt (b := 2) (by omega) (by omega)).mpr q)
          have z5 : ¬ 5 < K f := fun q => n5 ((qn_lt (a := 5) (by omega) (by omega)).mpr q)
          have h := hA (by omega)
          rw [if_neg (show ¬ K f = 1 by omega)]
          refine qm_Y (qm_Y ?_)
          refine br_c (fun e => ?_) (fun e => ?_)
          · rw [if_pos ((qn_eq (b := 4) (by omega) (by omega)).mp e)] at h
            exact qm_Y h
          · rw [if_neg (fun q => e (by rw [q]; rfl))] at h
            exact h
      by_cases form : K f = 2 ∨ K f = 3 ∨ K f = 4 ∨ K f = 5
      · refine PX _ (fun _ => ?_) (fun z => absurd form z)
        unfold wX_copy_93
        refine qm_X (qm_X ?_)
        have H129 : wX_copy_129 (fun r u' => wpY_copy (fun r' v' => r' = r ∧ i_Rel (k + 5) u' v') (ks, os, oa, ob, oc, fr, di, fa, wk, nx) (nI f) (nI t)) (nI f) (nI t) (nI (K f)) (qm_v (nI (A f)) rows cols) (qm_v (nI (B f)) rows cols) (if K f = 4 then qm_v (nI (C f)) rows cols else nI (C f)) kd nm op fi se th ow sh dr so st vl dp := by
          have broke : ∀ (a b d : Int32), (a < 0 ∨ b < 0 ∨ d < 0) → (qm_v (nI (A f)) rows cols = a) → (qm_v (nI (B f)) rows cols = b) → ((if K f = 4 then qm_v (nI (C f)) rows cols else nI (C f)) = d) → wX_copy_147 (fun r u' => wpY_copy (fun r' v' => r' = r ∧ i_Rel (k + 5) u' v') (ks, os, oa, ob, oc, fr, di, fa, wk, nx) (nI f) (nI t)) (nI t) kd nm op fi se th ow sh dr so st vl dp := by
            intro a b d neg ha hb hd
            refine qX_147 kd nm op fi se th ow sh dr so st vl dp X G ht (fun ow' sh' dr' so' st' vl' dp' Z' => ?_)
            refine PY _ (fun _ => ?_) (fun z => absurd form z)
            rw [ha, hb, hd]
            have fin : wY_copy_148 (fun r' v' => r' = 1 ∧ i_Rel (k + 5) ((upd kd t (nI 6)), nm, op, (upd fi t (nI 0)), (upd se t (nI 0)), (upd th t (nI 0)), ow', sh', dr', so', st', vl', dp') v') (nI t) 6 (os f) a b d ks os oa ob oc fr di fa wk nx := by
              have Y' := qy_u Y t 6 0 0 0 (os' := upd os t 0) (nm' := nm) (op' := op) (x := nI 0) (by rw [if_neg (by decide)]) (fun j e => rfl) (fun j e => rfl) (fun j e => pk_un e) (fun z => by omega)
              exact qY_148b ks os oa ob oc fr di fa wk nx ht ⟨rfl, _, _, _, _, qg_u G (by omega) (by omega) (by omega) (by omega) (by omega), q6_u H6 (fun _ => ⟨rfl, rfl, rfl⟩), qx_u X t 6 0 0 0, Z', Y'⟩
            refine br_c (fun _ => fin) (fun n1 => br_c (fun _ => fin) (fun n2 => br_c (fun n3 => ?_) (fun _ => fin)))
            rcases neg with z | z | z
            · exact absurd z n1
            · exact absurd z n2
            · exact absurd n3 (Int32.not_le.mpr z)
          have m1 : (-1 : Int32) < 0 := by decide
          rcases qm_ok (a := A f) g.2.1 i1 i2 (by omega) (by omega) with ⟨a, ha, wa, a1, a2⟩ | ⟨wa, _⟩
          · rcases qm_ok (a := B f) g.2.2.1 i1 i2 (by omega) (by omega) with ⟨b, hb, wb, b1, b2⟩ | ⟨wb, _⟩
            · have third : (∃ d : Nat, d < 36 ∧ (if K f = 4 then qm_v (nI (C f)) rows cols else nI (C f)) = nI d) ∨ (if K f = 4 then qm_v (nI (C f)) rows cols else nI (C f)) = -1 := by
                by_cases k4 : K f = 4
                · rw [if_pos k4]
                  rcases qm_ok (a := C f) g.2.2.2.1 i1 i2 (by omega) (by omega) with ⟨d, hd, wd, _⟩ | ⟨wd, _⟩
                  · exact Or.inl ⟨d, hd, wd⟩
                  · exact Or.inr wd
                · rw [if_neg k4]
                  exact Or.inl ⟨C f, g.2.2.2.1, rfl⟩
              rcases third with ⟨d, hd, wd⟩ | wd
              · have PY' := fun post => PY post
                rw [wa, wb, wd] at PY' ⊢
                have hg : K f = 3 ∨ K f = 5 → a / 6 ≤ b / 6 ∧ a % 6 ≤ b % 6 := by
                  intro z
                  have g5 := g.2.2.2.2 z
                  omega
                have n6 : K f ≠ 6 := by omega
                refine qX_129 kd nm op fi se th ow sh dr so st vl dp X G hf ht g.1 ha hb hd hg (fun ow' sh' dr' so' st' vl' dp' Z' => ?_)
                rw [if_neg n6]
                refine PY' _ (fun _ => ?_) (fun z => absurd form z)
                refine br_f (nI_pos (by omega)) (br_f (nI_pos (by omega)) (br_t (nI_pos' (by omega)) ?_))
                refine qY_148a ks os oa ob oc fr di fa wk nx ht (by omega) (fun os' h1 h2 => ⟨rfl, _, _, _, _, qg_u G g.1 ha hb hd hg, q6_u H6 (fun z => absurd z n6), qx_u X t (K f) a b d, Z', ?_⟩)
                exact qy_u Y t (K f) a b d (os' := os') (nm' := upd nm t (nm f)) (op' := upd op t (op f)) (x := nI a) (by rw [if_neg (by omega)]) (fun j e => pk_un e) (fun j e => pk_un e) h1 (fun z => by rw [h2 z, pk_us]; exact y.2.2.2.2 z)
              · have B147 := broke _ _ _ (Or.inr (Or.inr (by rw [wd]; exact m1))) rfl rfl rfl
                rw [wa, wb, wd]
                exact br_f (qn_m1 (by omega)) (br_f (qn_m1 (by omega)) (br_t rfl B147))
            · have B147 := broke _ _ _ (Or.inr (Or.inl (by rw [wb]; exact m1))) rfl rfl rfl
              rw [wa, wb]
              exact br_f (qn_m1 (by omega)) (br_t rfl B147)
          · have B147 := broke _ _ _ (Or.inl (by rw [wa]; exact m1)) rfl rfl rfl
            rw [wa]
            exact br_t rfl B147
        refine br_c (fun e => ?_) (fun e => ?_)
        · rw [if_pos ((qn_eq (b := 4) (by omega) (by omega)).mp e)] at H129
          exact qm_X H129
        · rw [if_neg (fun q => e (by rw [q]; rfl))] at H129
          exact H129
      · refine PX _ (fun z => absurd z form) (fun _ => ?_)
        refine br_f (fun e => form (Or.inr (Or.inr (Or.inl ((qn_eq (b := 4) (by omega) (by omega)).mp e))))) ?_
        have ng : K f = 3 ∨ K f = 5 → A f / 6 ≤ B f / 6 ∧ A f % 6 ≤ B f % 6 := g.2.2.2.2
        refine qX_129 kd nm op fi se th ow sh dr so st vl dp X G hf ht g.1 g.2.1 g.2.2.1 g.2.2.2.1 ng (fun ow' sh' dr' so' st' vl' dp' Z' => ?_)
        refine PY _ (fun z => absurd z form) (fun _ => ?_)
        by_cases k6 : K f = 6
        · have h6 := H6 f hf k6
          have Y' := qy_u Y t 6 0 0 0 (os' := upd os t 0) (nm' := upd nm t (nm f)) (op' := upd op t (op f)) (x := nI 0) (by rw [if_neg (by decide)]) (fun j e => pk_un e) (fun j e => pk_un e) (fun j e => pk_un e) (fun z => by omega)
          rw [k6, h6.1, h6.2.1, h6.2.2] at Z' ⊢
          exact qY_148b ks os oa ob oc fr di fa wk nx ht ⟨rfl, _, _, _, _, qg_u G (by omega) (by omega) (by omega) (by omega) (by omega), q6_u H6 (fun _ => ⟨rfl, rfl, rfl⟩), qx_u X t 6 0 0 0, Z', Y'⟩
        · rw [if_neg k6]
          refine qY_148a ks os oa ob oc fr di fa wk nx ht (by omega) (fun os' h1 h2 => ⟨rfl, _, _, _, _, qg_u G g.1 g.2.1 g.2.2.1 g.2.2.2.1 ng, q6_u H6 (fun z => absurd z k6), qx_u X t (K f) (A f) (B f) (C f), Z', ?_⟩)
          exact qy_u Y t (K f) (A f) (B f) (C f) (os' := os') (nm' := upd nm t (nm f)) (op' := upd op t (op f)) (by rw [pk_us]) (fun j e => pk_un e) (fun j e => pk_un e) h1 (fun z => absurd (Or.inl z) form)
    · unfold wpX_copy
      dsimp only
      refine qi_X1 hf (br_f (by decide) (qi_X0 g2 (br_t rfl ?_)))
      unfold wpY_copy
      exact qi_Y1 hf (br_t rfl (qi_Y0 g2 (br_f (by decide) ⟨rfl, R⟩)))
  · unfold wpX_copy
    dsimp only
    refine qi_X0 g (br_t rfl ?_)
    unfold wpY_copy
    exact qi_Y0 g (br_f (by decide) ⟨rfl, R⟩)
end
section
/-! the questions -/
theorem i_vc_kind {k : Nat} {u : SX} {v : SY} (I : i_Rel k u v) (hk : k + 5 ≤ 2560) (v1 : Int32) : wpX_kind (fun r => wpY_kind (fun r' => r' = r ∧ i_Rel (k + 5) u v) v v1) u v1 := by
  obtain ⟨kd, nm, op, fi, se, th, ow, sh, dr, so, st, vl, dp⟩ := u
  obtain ⟨ks, os, oa, ob, oc, fr, di, fa, wk, nx⟩ := v
  obtain ⟨K, A, B, C, G, H6, X, Z, Y⟩ := I
  have R : i_Rel (k + 5) (kd, nm, op, fi, se, th, ow, sh, dr, so, st, vl, dp) (ks, os, oa, ob, oc, fr, di, fa, wk, nx) := ⟨K, A, B, C, G, H6, X, Z, Y⟩
  unfold wpX_kind wpY_kind
  dsimp only
  by_cases g : qi_g v1
  · obtain ⟨c, hc, rfl⟩ := g
    refine qi_X1 hc (br_f (by decide) ⟨qn_in hc, qi_Y1 hc (br_t rfl ⟨qn_in hc, ?_, R⟩)⟩)
    rw [qn_cl hc, (X c hc).1, (Y c hc).1]
  · exact qi_X0 g (br_t rfl (qi_Y0 g (br_f (by decide) ⟨rfl, R⟩)))
theorem i_vc_state {k : Nat} {u : SX} {v : SY} (I : i_Rel k u v) (hk : k + 5 ≤ 2560) (v1 : Int32) : wpX_state (fun r => wpY_state (fun r' v' => r' = r ∧ i_Rel (k + 5) u v') v v1) u v1 := by
  obtain ⟨kd, nm, op, fi, se, th, ow, sh, dr, so, st, vl, dp⟩ := u
  obtain ⟨ks, os, oa, ob, oc, fr, di, fa, wk, nx⟩ := v
  obtain ⟨K, A, B, C, G, H6, X, Z, Y⟩ := I
  have R : i_Rel (k + 5) (kd, nm, op, fi, se, th, ow, sh, dr, so, st, vl, dp) (ks, os, oa, ob, oc, fr, di, fa, wk, nx) := ⟨K, A, B, C, G, H6, X, Z, Y⟩
  unfold wpX_state wpY_state
  dsimp only
  by_cases g : qi_g v1
  · obtain ⟨c, hc, rfl⟩ := g
    refine qi_X1 hc (br_f (by decide) ⟨qn_in hc, qi_Y1 hc (br_t rfl ?_)⟩)
    refine qt_Y ks os oa ob oc fr di fa wk nx Y G (fun fr' di' fa' hO hD hF => ?_)
    refine qf_Y ks os oa ob oc fr' di' fa' wk nx Y G hO hF hc ⟨?_, K, A, B, C, G, H6, X, Z, Y⟩
    rw [qn_cl hc, Z.2.2.2.1 c hc]
  · exact qi_X0 g (br_t rfl (qi_Y0 g (br_f (by decide) ⟨rfl, R⟩)))
theorem i_vc_value {k : Nat} {u : SX} {v : SY} (I : i_Rel k u v) (hk : k + 5 ≤ 2560) (v1 : Int32) : wpX_value (fun r => wpY_value (fun r' v' => r' = r ∧ i_Rel (k + 5) u v') v v1) u v1 := by
  obtain ⟨kd, nm, op, fi, se, th, ow, sh, dr, so, st, vl, dp⟩ := u
  obtain ⟨ks, os, oa, ob, oc, fr, di, fa, wk, nx⟩ := v
  obtain ⟨K, A, B, C, G, H6, X, Z, Y⟩ := I
  have R : i_Rel (k + 5) (kd, nm, op, fi, se, th, ow, sh, dr, so, st, vl, dp) (ks, os, oa, ob, oc, fr, di, fa, wk, nx) := ⟨K, A, B, C, G, H6, X, Z, Y⟩
  unfold wpX_value wpY_value
  dsimp only
  by_cases g : qi_g v1
  · obtain ⟨c, hc, rfl⟩ := g
    refine qi_X1 hc (br_f (by decide) ⟨qn_in hc, qi_Y1 hc (br_t rfl ?_)⟩)
    refine qv_Y ks os oa ob oc fr di fa wk nx Y G (fun fr' di' fa' wk' nx' hV => ⟨qn_in hc, ?_, K, A, B, C, G, H6, X, Z, Y⟩)
    rw [qn_cl hc]
    exact (hV c hc).trans (Z.2.2.2.2.1 c hc).symm
  · exact qi_X0 g (br_t rfl (qi_Y0 g (br_f (by decide) ⟨rfl, R⟩)))
theorem i_vc_shows {k : Nat} {u : SX} {v : SY} (I : i_Rel k u v) (hk : k + 5 ≤ 2560) (v1 : Int32) : wpX_shows (fun r => wpY_shows (fun r' v' => r' = r ∧ i_Rel (k + 5) u v') v v1) u v1 := by
  obtain ⟨kd, nm, op, fi, se, th, ow, sh, dr, so, st, vl, dp⟩ := u
  obtain ⟨ks, os, oa, ob, oc, fr, di, fa, wk, nx⟩ := v
  obtain ⟨K, A, B, C, G, H6, X, Z, Y⟩ := I
  have R : i_Rel (k + 5) (kd, nm, op, fi, se, th, ow, sh, dr, so, st, vl, dp) (ks, os, oa, ob, oc, fr, di, fa, wk, nx) := ⟨K, A, B, C, G, H6, X, Z, Y⟩
  unfold wpX_shows wpY_shows
  dsimp only
  by_cases g : qi_g v1
  · obtain ⟨c, hc, rfl⟩ := g
    refine qi_X1 hc (br_f (by decide) ⟨qn_in hc, qi_Y1 hc (br_t rfl ?_)⟩)
    refine qs_Y ks os oa ob oc fr di fa wk nx Y G (fun fr' hO => ?_)
    refine qh_S ks os oa ob oc fr' di fa wk nx Y G hO hc ⟨?_, K, A, B, C, G, H6, X, Z, Y⟩
    rw [qn_cl hc, Z.2.1 c hc]
  · exact qi_X0 g (br_t rfl (qi_Y0 g (br_f (by decide) ⟨rfl, R⟩)))
theorem i_vc_owner {k : Nat} {u : SX} {v : SY} (I : i_Rel k u v) (hk : k + 5 ≤ 2560) (v1 : Int32) : wpX_owner (fun r => wpY_owner (fun r' v' => r' = r ∧ i_Rel (k + 5) u v') v v1) u v1 := by
  obtain ⟨kd, nm, op, fi, se, th, ow, sh, dr, so, st, vl, dp⟩ := u
  obtain ⟨ks, os, oa, ob, oc, fr, di, fa, wk, nx⟩ := v
  obtain ⟨K, A, B, C, G, H6, X, Z, Y⟩ := I
  have R : i_Rel (k + 5) (kd, nm, op, fi, se, th, ow, sh, dr, so, st, vl, dp) (ks, os, oa, ob, oc, fr, di, fa, wk, nx) := ⟨K, A, B, C, G, H6, X, Z, Y⟩
  unfold wpX_owner wpY_owner
  dsimp only
  by_cases g : qi_g v1
  · obtain ⟨c, hc, rfl⟩ := g
    refine qi_X1 hc (br_f (by decide) ⟨qn_in hc, qi_Y1 hc (br_t rfl ?_)⟩)
    refine qs_Y ks os oa ob oc fr di fa wk nx Y G (fun fr' hO => ⟨qn_in hc, ?_, K, A, B, C, G, H6, X, Z, Y⟩)
    rw [qn_cl hc]
    exact (hO c hc).trans (Z.1 c hc).symm
  · exact qi_X0 g (br_t rfl (qi_Y0 g (br_f (by decide) ⟨rfl, R⟩)))
theorem i_vc_sources {k : Nat} {u : SX} {v : SY} (I : i_Rel k u v) (hk : k + 5 ≤ 2560) (v1 : Int32) : wpX_sources (fun r => wpY_sources (fun r' v' => r' = r ∧ i_Rel (k + 5) u v') v v1) u v1 := by
  obtain ⟨kd, nm, op, fi, se, th, ow, sh, dr, so, st, vl, dp⟩ := u
  obtain ⟨ks, os, oa, ob, oc, fr, di, fa, wk, nx⟩ := v
  obtain ⟨K, A, B, C, G, H6, X, Z, Y⟩ := I
  have R : i_Rel (k + 5) (kd, nm, op, fi, se, th, ow, sh, dr, so, st, vl, dp) (ks, os, oa, ob, oc, fr, di, fa, wk, nx) := ⟨K, A, B, C, G, H6, X, Z, Y⟩
  unfold wpX_sources wpY_sources
  dsimp only
  by_cases g : qi_g v1
  · obtain ⟨c, hc, rfl⟩ := g
    refine qi_X1 hc (br_f (by decide) ⟨qn_in hc, qi_Y1 hc (br_t rfl ?_)⟩)
    refine qt_Y ks os oa ob oc fr di fa wk nx Y G (fun fr' di' fa' hO hD hF => ⟨qn_in hc, ?_, K, A, B, C, G, H6, X, Z, Y⟩)
    rw [qn_cl hc]
    exact qb_mu (hF c hc) (Z.2.2.1 c hc)
  · exact qi_X0 g (br_t rfl (qi_Y0 g (br_f (by decide) ⟨rfl, R⟩)))
theorem i_vc_readers {k : Nat} {u : SX} {v : SY} (I : i_Rel k u v) (hk : k + 5 ≤ 2560) (v1 : Int32) : wpX_readers (fun r => wpY_readers (fun r' v' => r' = r ∧ i_Rel (k + 5) u v') v v1) u v1 := by
  obtain ⟨kd, nm, op, fi, se, th, ow, sh, dr, so, st, vl, dp⟩ := u
  obtain ⟨ks, os, oa, ob, oc, fr, di, fa, wk, nx⟩ := v
  obtain ⟨K, A, B, C, G, H6, X, Z, Y⟩ := I
  have R : i_Rel (k + 5) (kd, nm, op, fi, se, th, ow, sh, dr, so, st, vl, dp) (ks, os, oa, ob, oc, fr, di, fa, wk, nx) := ⟨K, A, B, C, G, H6, X, Z, Y⟩
  unfold wpX_readers wpY_readers
  dsimp only
  by_cases g : qi_g v1
  · obtain ⟨c, hc, rfl⟩ := g
    refine qi_X1 hc (br_f (by decide) (qR_X kd nm op fi se th ow sh dr so st vl dp Z.2.2.1 hc (fun x hx => qi_Y1 hc (br_t rfl ?_))))
    refine qt_Y ks os oa ob oc fr di fa wk nx Y G (fun fr' di' fa' hO hD hF => ?_)
    exact qR_Y ks os oa ob oc fr' di' fa' wk nx hF hc (fun y hy => ⟨qb_mu hy hx, K, A, B, C, G, H6, X, Z, Y⟩)
  · exact qi_X0 g (br_t rfl (qi_Y0 g (br_f (by decide) ⟨rfl, R⟩)))
theorem i_vc_inState {k : Nat} {u : SX} {v : SY} (I : i_Rel k u v) (hk : k + 5 ≤ 2560) (v1 : Int32) : wpX_inState (fun r => wpY_inState (fun r' v' => r' = r ∧ i_Rel (k + 5) u v') v v1) u v1 := by
  obtain ⟨kd, nm, op, fi, se, th, ow, sh, dr, so, st, vl, dp⟩ := u
  obtain ⟨ks, os, oa, ob, oc, fr, di, fa, wk, nx⟩ := v
  obtain ⟨K, A, B, C, G, H6, X, Z, Y⟩ := I
  have R : i_Rel (k + 5) (kd, nm, op, fi, se, th, ow, sh, dr, so, st, vl, dp) (ks, os, oa, ob, oc, fr, di, fa, wk, nx) := ⟨K, A, B, C, G, H6, X, Z, Y⟩
  unfold wpX_inState wpY_inState
  dsimp only
  refine br_c (fun b => br_t b ⟨rfl, R⟩) (fun b => br_c (fun b2 => ?_) (fun b2 => br_f b (br_f (fun z => b2 ((qn_c4 v1).mp z)) ⟨rfl, R⟩)))
  refine qI_X kd nm op fi se th ow sh dr so st vl dp Z.2.2.2.1 (br_f b (br_t ((qn_c4 v1).mpr b2) ?_))
  refine qt_Y ks os oa ob oc fr di fa wk nx Y G (fun fr' di' fa' hO hD hF => ?_)
  exact qI_Y ks os oa ob oc fr' di' fa' wk nx Y G hO hF ⟨rfl, K, A, B, C, G, H6, X, Z, Y⟩
theorem i_vc_depth {k : Nat} {u : SX} {v : SY} (I : i_Rel k u v) (hk : k + 5 ≤ 2560) (v1 : Int32) : wpX_depth (fun r => wpY_depth (fun r' v' => r' = r ∧ i_Rel (k + 5) u v') v v1) u v1 := by
  obtain ⟨kd, nm, op, fi, se, th, ow, sh, dr, so, st, vl, dp⟩ := u
  obtain ⟨ks, os, oa, ob, oc, fr, di, fa, wk, nx⟩ := v
  obtain ⟨K, A, B, C, G, H6, X, Z, Y⟩ := I
  have R : i_Rel (k + 5) (kd, nm, op, fi, se, th, ow, sh, dr, so, st, vl, dp) (ks, os, oa, ob, oc, fr, di, fa, wk, nx) := ⟨K, A, B, C, G, H6, X, Z, Y⟩
  unfold wpX_depth wpY_depth
  dsimp only
  by_cases g : qi_g v1
  · obtain ⟨c, hc, rfl⟩ := g
    refine qi_X1 hc (br_f (by decide) ⟨qn_in hc, ?_⟩)
    rw [qn_cl hc, Z.2.2.2.1 c hc]
    have sle := qp_st_le (qp_D K A B C (qp_W K A B)) K (qp_W K A B) c
    refine br_c (fun e => qi_Y1 hc (br_t rfl ?_)) (fun e => ⟨qn_in hc, qi_Y1 hc (br_t rfl ?_)⟩)
    · refine qt_Y ks os oa ob oc fr di fa wk nx Y G (fun fr' di' fa' hO hD hF => ?_)
      exact qf_Y ks os oa ob oc fr' di' fa' wk nx Y G hO hF hc (br_t e ⟨rfl, K, A, B, C, G, H6, X, Z, Y⟩)
    · have nc : qf_c (qp_D K A B C (qp_W K A B)) c = false := by
        refine Bool.eq_false_iff.mpr (fun z => e ?_)
        rw [qp_st2.mpr z]; rfl
      refine qt_Y ks os oa ob oc fr di fa wk nx Y G (fun fr' di' fa' hO hD hF => ?_)
      refine qf_Y ks os oa ob oc fr' di' fa' wk nx Y G hO hF hc (br_f e ?_)
      exact qD_Y ks os oa ob oc fr' di' fa' wk nx hD hF hc nc (fun wk' => ⟨(Z.2.2.2.2.2 c hc nc).symm, K, A, B, C, G, H6, X, Z, Y⟩)
  · exact qi_X0 g (br_t rfl (qi_Y0 g (br_f (by decide) ⟨rfl, R⟩)))
theorem i_vc_total {k : Nat} {u : SX} {v : SY} (I : i_Rel k u v) (hk : k + 5 ≤ 2560) (v1 : Int32) : wpX_total (fun r => wpY_total (fun r' v' => r' = r ∧ i_Rel (k + 5) u v') v v1) u v1 := by
  obtain ⟨kd, nm, op, fi, se, th, ow, sh, dr, so, st, vl, dp⟩ := u
  obtain ⟨ks, os, oa, ob, oc, fr, di, fa, wk, nx⟩ := v
  obtain ⟨K, A, B, C, G, H6, X, Z, Y⟩ := I
  have R : i_Rel (k + 5) (kd, nm, op, fi, se, th, ow, sh, dr, so, st, vl, dp) (ks, os, oa, ob, oc, fr, di, fa, wk, nx) := ⟨K, A, B, C, G, H6, X, Z, Y⟩
  unfold wpX_total wpY_total
  dsimp only
  by_cases g : qj_g v1
  · obtain ⟨q, hq, rfl⟩ := g
    obtain ⟨q1, q2, q3⟩ := id hq
    refine qj_X1 hq (br_f (by decide) ⟨qn_36, qn_36, ?_⟩)
    rw [qn_m36 (by omega), qn_d36 (by omega)]
    refine qz_cb (by omega) (by omega) q2 q3 (fun x hx => qt_X kd nm op fi se th ow sh dr so st vl dp hx (qj_Y1 hq (br_t rfl ?_)))
    refine qv_Y ks os oa ob oc fr di fa wk nx Y G (fun fr' di' fa' wk' nx' hV => ?_)
    refine qT_Y ks os oa ob oc fr' di' fa' wk' nx' q1 ⟨?_, K, A, B, C, G, H6, X, Z, Y⟩
    exact qs_c (fun _ _ => rfl) (fun i hi _ => by rw [hV i hi, Z.2.2.2.2.1 i hi])
  · exact qj_X0 g (br_t rfl (qj_Y0 g (br_f (by decide) ⟨rfl, R⟩)))
end
