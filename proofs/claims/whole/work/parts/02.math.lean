/-! the pure picture: closure, rank, values by rank; no machine here -/
/-- some i below n has P -/
def qe_x (P : Nat → Bool) : Nat → Bool
  | 0 => false
  | n + 1 => qe_x P n || P n
theorem qe_iff {P : Nat → Bool} : ∀ {n : Nat}, qe_x P n = true ↔ ∃ i, i < n ∧ P i = true
  | 0 => ⟨fun h => (nomatch h), fun ⟨i, hi, _⟩ => absurd hi (Nat.not_lt_zero i)⟩
  | n + 1 => by
    show (qe_x P n || P n) = true ↔ _
    rw [Bool.or_eq_true, qe_iff (n := n)]
    constructor
    · rintro (⟨i, hi, h⟩ | h)
      · exact ⟨i, by omega, h⟩
      · exact ⟨n, by omega, h⟩
    · rintro ⟨i, hi, h⟩
      by_cases e : i = n
      · subst e; exact Or.inr h
      · exact Or.inl ⟨i, by omega, h⟩
theorem qe_f {P : Nat → Bool} {n : Nat} : qe_x P n = false ↔ ∀ i, i < n → P i = false := by
  constructor
  · intro h i hi
    cases hp : P i with
    | false => rfl
    | true => rw [qe_iff.mpr ⟨i, hi, hp⟩] at h; cases h
  · intro h
    cases hq : qe_x P n with
    | false => rfl
    | true =>
      obtain ⟨i, hi, hp⟩ := qe_iff.mp hq
      rw [h i hi] at hp; cases hp
/-- how many below n have P -/
def qr_n (P : Nat → Bool) : Nat → Nat
  | 0 => 0
  | n + 1 => qr_n P n + (if P n = true then 1 else 0)
theorem qr_le {P Q : Nat → Bool} : ∀ {n : Nat}, (∀ i, i < n → P i = true → Q i = true) → qr_n P n ≤ qr_n Q n
  | 0, _ => Nat.le_refl _
  | n + 1, h => by
    have a := qr_le (n := n) (fun i hi => h i (by omega))
    have b := h n (by omega)
    show qr_n P n + (if P n = true then 1 else 0) ≤ qr_n Q n + (if Q n = true then 1 else 0)
    by_cases p : P n = true
    · rw [if_pos p, if_pos (b p)]; omega
    · rw [if_neg p]; omega
theorem qr_lt {P Q : Nat → Bool} : ∀ {n : Nat}, (∀ i, i < n → P i = true → Q i = true) → ∀ j, j < n → P j = false → Q j = true → qr_n P n < qr_n Q n
  | 0, _, j, hj, _, _ => absurd hj (Nat.not_lt_zero j)
  | n + 1, h, j, hj, pj, qj => by
    have b := h n (by omega)
    show qr_n P n + (if P n = true then 1 else 0) < qr_n Q n + (if Q n = true then 1 else 0)
    by_cases e : j = n
    · subst e
      have a := qr_le (n := j) (fun i hi => h i (by omega))
      rw [if_neg (by rw [pj]; decide), if_pos qj]; omega
    · have a := qr_lt (n := n) (fun i hi => h i (by omega)) j (by omega) pj qj
      by_cases p : P n = true
      · rw [if_pos p, if_pos (b p)]; omega
      · rw [if_neg p]; omega
theorem qr_all : ∀ n, qr_n (fun _ => true) n = n
  | 0 => rfl
  | n + 1 => by
    show qr_n (fun _ => true) n + (if true = true then 1 else 0) = n + 1
    rw [qr_all n, if_pos rfl]
/-- the closure by middles below m -/
def qw_m (D : Nat → Nat → Bool) : Nat → Nat → Nat → Bool
  | 0 => D
  | m + 1 => fun c d => qw_m D m c d || (qw_m D m c m && qw_m D m m d)
theorem qw_s (D : Nat → Nat → Bool) (m c d : Nat) : qw_m D (m + 1) c d = (qw_m D m c d || (qw_m D m c m && qw_m D m m d)) := rfl
theorem qw_si {D : Nat → Nat → Bool} {m c d : Nat} : qw_m D (m + 1) c d = true ↔ (qw_m D m c d = true ∨ (qw_m D m c m = true ∧ qw_m D m m d = true)) := by
  rw [qw_s, Bool.or_eq_true, Bool.and_eq_true]
theorem qw_D {D : Nat → Nat → Bool} {c d : Nat} (h : D c d = true) : ∀ m, qw_m D m c d = true
  | 0 => h
  | m + 1 => qw_si.mpr (Or.inl (qw_D h m))
theorem qw_tr {D : Nat → Nat → Bool} : ∀ (m : Nat) {k c d : Nat}, k < m → qw_m D m c k = true → qw_m D m k d = true → qw_m D m c d = true
  | 0, k, _, _, hk, _, _ => absurd hk (Nat.not_lt_zero k)
  | m + 1, k, c, d, hk, h1, h2 => by
    rw [qw_si] at h1 h2 ⊢
    by_cases e : k = m
    · subst e
      rcases h1 with h1 | ⟨h1, _⟩
      · rcases h2 with h2 | ⟨_, h2⟩
        · exact Or.inr ⟨h1, h2⟩
        · exact Or.inr ⟨h1, h2⟩
      · rcases h2 with h2 | ⟨_, h2⟩
        · exact Or.inr ⟨h1, h2⟩
        · exact Or.inr ⟨h1, h2⟩
    · have hk' : k < m := by omega
      rcases h1 with h1 | ⟨h1, h1'⟩
      · rcases h2 with h2 | ⟨h2, h2'⟩
        · exact Or.inl (qw_tr m hk' h1 h2)
        · exact Or.inr ⟨qw_tr m hk' h1 h2, h2'⟩
      · rcases h2 with h2 | ⟨_, h2'⟩
        · exact Or.inr ⟨h1, qw_tr m hk' h1' h2⟩
        · exact Or.inr ⟨h1, h2'⟩
theorem qw_min {D : Nat → Nat → Bool} (T : Nat → Nat → Prop) (h0 : ∀ c d, D c d = true → T c d) (ht : ∀ c k d, k < 36 → T c k → T k d → T c d) : ∀ (m : Nat), m ≤ 36 → ∀ {c d : Nat}, qw_m D m c d = true → T c d
  | 0, _, _, _, h => h0 _ _ h
  | m + 1, hm, c, d, h => by
    rw [qw_si] at h
    rcases h with h | ⟨h1, h2⟩
    · exact qw_min T h0 ht m (by omega) h
    · exact ht c m d (by omega) (qw_min T h0 ht m (by omega) h1) (qw_min T h0 ht m (by omega) h2)
def qf_F (D : Nat → Nat → Bool) (c d : Nat) : Bool := qw_m D 36 c d
theorem qf_D {D : Nat → Nat → Bool} {c d : Nat} (h : D c d = true) : qf_F D c d = true := qw_D h 36
theorem qf_tr {D : Nat → Nat → Bool} {c k d : Nat} (hk : k < 36) (h1 : qf_F D c k = true) (h2 : qf_F D k d = true) : qf_F D c d = true := qw_tr 36 hk h1 h2
theorem qf_1 {D : Nat → Nat → Bool} {c d : Nat} (h : qf_F D c d = true) : D c d = true ∨ ∃ e, e < 36 ∧ D c e = true ∧ qf_F D e d = true := by
  refine qw_min (D := D) (fun c d => D c d = true ∨ ∃ e, e < 36 ∧ D c e = true ∧ qf_F D e d = true) (fun c d h => Or.inl h) ?_ 36 (Nat.le_refl _) h
  intro c k d hk h1 h2
  have hkd : qf_F D k d = true := by
    rcases h2 with h2 | ⟨e, he, h2, h3⟩
    · exact qf_D h2
    · exact qf_tr he (qf_D h2) h3
  rcases h1 with h1 | ⟨e, he, h1, h3⟩
  · exact Or.inr ⟨k, hk, h1, hkd⟩
  · exact Or.inr ⟨e, he, h1, qf_tr hk h3 hkd⟩
/-- circular: in its own far set, or one of its sources is -/
def qf_c (D : Nat → Nat → Bool) (c : Nat) : Bool := qf_F D c c || qe_x (fun d => qf_F D c d && qf_F D d d) 36
theorem qf_ci {D : Nat → Nat → Bool} {c : Nat} : qf_c D c = true ↔ (qf_F D c c = true ∨ ∃ d, d < 36 ∧ qf_F D c d = true ∧ qf_F D d d = true) := by
  unfold qf_c
  rw [Bool.or_eq_true, qe_iff]
  simp only [Bool.and_eq_true]
theorem qf_nc {D : Nat → Nat → Bool} {c : Nat} : qf_c D c = false ↔ (qf_F D c c = false ∧ ∀ d, d < 36 → qf_F D c d = true → qf_F D d d = false) := by
  unfold qf_c
  rw [Bool.or_eq_false_iff, qe_f]
  constructor
  · rintro ⟨h1, h2⟩
    refine ⟨h1, fun d hd h => ?_⟩
    have t := h2 d hd
    rw [h, Bool.true_and] at t
    exact t
  · rintro ⟨h1, h2⟩
    refine ⟨h1, fun d hd => ?_⟩
    cases h : qf_F D c d with
    | false => rfl
    | true => rw [h2 d hd h]; rfl
theorem qf_dn {D : Nat → Nat → Bool} {c d : Nat} (hd : d < 36) (hc : qf_c D c = false) (h : D c d = true) : qf_c D d = false := by
  rw [qf_nc] at hc ⊢
  exact ⟨hc.2 d hd (qf_D h), fun e he h2 => hc.2 e he (qf_tr hd (qf_D h) h2)⟩
def qf_r (D : Nat → Nat → Bool) (c : Nat) : Nat := qr_n (qf_F D c) 36
theorem qf_rl {D : Nat → Nat → Bool} {c d : Nat} (hd : d < 36) (hc : qf_c D c = false) (h : D c d = true) : qf_r D d < qf_r D c :=
  qr_lt (fun i _ hi => qf_tr hd (qf_D h) hi) d hd ((qf_nc.mp hc).2 d hd (qf_D h)) (qf_D h)
theorem qf_rb {D : Nat → Nat → Bool} {c : Nat} (h36 : c < 36) (hc : qf_c D c = false) : qf_r D c < 36 := by
  have h := qr_lt (P := qf_F D c) (Q := fun _ => true) (n := 36) (fun _ _ _ => rfl) c h36 (qf_nc.mp hc).1 rfl
  rw [qr_all] at h
  exact h
/-- values by rank: E V c is what the cell c gets of V -/
def qv_n (E : (Nat → Int32) → Nat → Int32) : Nat → Nat → Int32
  | 0 => fun _ => 0
  | n + 1 => fun c => E (qv_n E n) c
/-- E looks at the cells that D names alone -/
def qv_L (D : Nat → Nat → Bool) (E : (Nat → Int32) → Nat → Int32) : Prop := ∀ (V V' : Nat → Int32) (c : Nat), c < 36 → (∀ d, d < 36 → D c d = true → V d = V' d) → E V c = E V' c
theorem qv_st {D : Nat → Nat → Bool} {E : (Nat → Int32) → Nat → Int32} (hE : qv_L D E) : ∀ (r c : Nat), c < 36 → qf_c D c = false → qf_r D c ≤ r → ∀ n m, qf_r D c < n → qf_r D c < m → qv_n E n c = qv_n E m c := by
  intro r
  induction r with
  | zero =>
    intro c h36 hc hr n m hn hm
    obtain ⟨n, rfl⟩ : ∃ n', n = n' + 1 := ⟨n - 1, by omega⟩
    obtain ⟨m, rfl⟩ : ∃ m', m = m' + 1 := ⟨m - 1, by omega⟩
    refine hE _ _ c h36 (fun d hd h => ?_)
    have := qf_rl hd hc h
    omega
  | succ r ih =>
    intro c h36 hc hr n m hn hm
    obtain ⟨n, rfl⟩ : ∃ n', n = n' + 1 := ⟨n - 1, by omega⟩
    obtain ⟨m, rfl⟩ : ∃ m', m = m' + 1 := ⟨m - 1, by omega⟩
    refine hE _ _ c h36 (fun d hd h => ?_)
    have := qf_rl hd hc h
    exact ih d hd (qf_dn hd hc h) (by omega) n m (by omega) (by omega)
def qv_V (E : (Nat → Int32) → Nat → Int32) : Nat → Int32 := qv_n E 36
theorem qv_fx {D : Nat → Nat → Bool} {E : (Nat → Int32) → Nat → Int32} (hE : qv_L D E) {c : Nat} (h36 : c < 36) (hc : qf_c D c = false) : qv_V E c = E (qv_V E) c :=
  qv_st hE _ c h36 hc (Nat.le_refl _) 36 37 (qf_rb h36 hc) (by have := qf_rb h36 hc; omega)
theorem qv_un {D : Nat → Nat → Bool} {E : (Nat → Int32) → Nat → Int32} (hE : qv_L D E) {V : Nat → Int32} (hV : ∀ c, c < 36 → qf_c D c = false → V c = E V c) : ∀ (r c : Nat), c < 36 → qf_c D c = false → qf_r D c ≤ r → V c = qv_V E c := by
  intro r
  induction r with
  | zero =>
    intro c h36 hc hr
    rw [hV c h36 hc, qv_fx hE h36 hc]
    refine hE _ _ c h36 (fun d hd h => ?_)
    have := qf_rl hd hc h
    omega
  | succ r ih =>
    intro c h36 hc hr
    rw [hV c h36 hc, qv_fx hE h36 hc]
    refine hE _ _ c h36 (fun d hd h => ?_)
    have := qf_rl hd hc h
    exact ih d hd (qf_dn hd hc h) (by omega)
/-- Y's passes: after pass p and the cells below j of the next -/
def qy_I (D : Nat → Nat → Bool) (E : (Nat → Int32) → Nat → Int32) (p j : Nat) (V : Nat → Int32) : Prop :=
  ∀ c, c < 36 → qf_c D c = false → (qf_r D c < p ∨ (qf_r D c ≤ p ∧ c < j)) → V c = qv_V E c
theorem qy_0 {D : Nat → Nat → Bool} {E : (Nat → Int32) → Nat → Int32} {V : Nat → Int32} : qy_I D E 0 0 V := fun c _ _ h => by omega
theorem qy_s {D : Nat → Nat → Bool} {E : (Nat → Int32) → Nat → Int32} (hE : qv_L D E) {p j : Nat} {V : Nat → Int32} (h : qy_I D E p j V) (hj : j < 36) {x : Int32} (hx : qf_c D j = false → x = E V j) : qy_I D E p (j + 1) (upd V j x) := by
  intro c h36 hc hr
  by_cases e : c = j
  · subst e
    rw [pk_us, hx hc, qv_fx hE h36 hc]
    refine hE _ _ c h36 (fun d hd h3 => ?_)
    have := qf_rl hd hc h3
    exact h d hd (qf_dn hd hc h3) (by omega)
  · rw [pk_un e]
    exact h c h36 hc (by omega)
theorem qy_p {D : Nat → Nat → Bool} {E : (Nat → Int32) → Nat → Int32} {p : Nat} {V : Nat → Int32} (h : qy_I D E p 36 V) : qy_I D E (p + 1) 0 V :=
  fun c h36 hc hr => h c h36 hc (by omega)
theorem qy_e {D : Nat → Nat → Bool} {E : (Nat → Int32) → Nat → Int32} {p : Nat} {V : Nat → Int32} (h : qy_I D E p 0 V) (hp : 36 ≤ p) {c : Nat} (h36 : c < 36) (hc : qf_c D c = false) : V c = qv_V E c :=
  h c h36 hc (Or.inl (by have := qf_rb h36 hc; omega))
/-- X's passes: the done set N is closed, holds the right values, and grows by rank -/
def qx_I (D : Nat → Nat → Bool) (p j : Nat) (N : Nat → Bool) : Prop :=
  (∀ c, c < 36 → N c = true → ∀ d, d < 36 → D c d = true → N d = true) ∧ (∀ c, c < 36 → qf_c D c = false → (qf_r D c < p ∨ (qf_r D c ≤ p ∧ c < j)) → N c = true)
def qx_V (D : Nat → Nat → Bool) (E : (Nat → Int32) → Nat → Int32) (N : Nat → Bool) (V : Nat → Int32) : Prop := ∀ c, c < 36 → N c = true → qf_c D c = false → V c = qv_V E c
theorem qx_0 {D : Nat → Nat → Bool} : qx_I D 0 0 (fun _ => false) := ⟨fun _ _ h => (nomatch h), fun c _ _ h => by omega⟩
theorem qx_V0 {D : Nat → Nat → Bool} {E : (Nat → Int32) → Nat → Int32} {V : Nat → Int32} : qx_V D E (fun _ => false) V := fun _ _ h => (nomatch h)
theorem qx_p {D : Nat → Nat → Bool} {p : Nat} {N : Nat → Bool} (h : qx_I D p 36 N) : qx_I D (p + 1) 0 N := ⟨h.1, fun c h36 hc hr => h.2 c h36 hc (by omega)⟩
theorem qx_done {D : Nat → Nat → Bool} {p j : Nat} {N : Nat → Bool} (h : qx_I D p j N) (hN : N j = true) : qx_I D p (j + 1) N := ⟨h.1, fun c h36 hc hr => by
  by_cases e : c = j
  · rw [e]; exact hN
  · exact h.2 c h36 hc (by omega)⟩
theorem qx_wait {D : Nat → Nat → Bool} {p j : Nat} {N : Nat → Bool} (h : qx_I D p j N) (hw : ¬ ∀ d, d < 36 → D j d = true → N d = true) : qx_I D p (j + 1) N := ⟨h.1, fun c h36 hc hr => by
  by_cases e : c = j
  · subst e
    by_cases hr2 : qf_r D c < p
    · exact h.2 c h36 hc (Or.inl hr2)
    · exfalso
      apply hw
      intro d hd h3
      have := qf_rl hd hc h3
      exact h.2 d hd (qf_dn hd hc h3) (by omega)
  · exact h.2 c h36 hc (by omega)⟩
theorem qx_put {D : Nat → Nat → Bool} {p j : Nat} {N : Nat → Bool} (h : qx_I D p j N) (hw : ∀ d, d < 36 → D j d = true → N d = true) : qx_I D p (j + 1) (fun i => N i || decide (i = j)) := by
  refine ⟨fun c h36 hN d hd hD => ?_, fun c h36 hc hr => ?_⟩
  · show (N d || decide (d = j)) = true
    have hN2 : N c = true ∨ c = j := by
      have t : (N c || decide (c = j)) = true := hN
      rw [Bool.or_eq_true, decide_eq_true_eq] at t
      exact t
    rcases hN2 with h3 | h3
    · rw [h.1 c h36 h3 d hd hD]; rfl
    · subst h3
      rw [hw d hd hD]; rfl
  · show (N c || decide (c = j)) = true
    by_cases e : c = j
    · rw [decide_eq_true e, Bool.or_true]
    · rw [h.2 c h36 hc (by omega)]; rfl
theorem qx_Vput {D : Nat → Nat → Bool} {E : (Nat → Int32) → Nat → Int32} (hE : qv_L D E) {j : Nat} {N : Nat → Bool} {V V' : Nat → Int32} (h : qx_V D E N V) (hj : j < 36) (hw : ∀ d, d < 36 → D j d = true → N d = true) (h0 : N j = false) (hx : qf_c D j = false → V' j = E V j) (hk : ∀ c, c < 36 → c ≠ j → V' c = V c) : qx_V D E (fun i => N i || decide (i = j)) V' := by
  intro c h36 hN hc
  by_cases e : c = j
  · subst e
    rw [hx hc, qv_fx hE h36 hc]
    refine hE _ _ c h36 (fun d hd h3 => ?_)
    exact h d hd (hw d hd h3) (qf_dn hd hc h3)
  · rw [hk c h36 e]
    have t : (N c || decide (c = j)) = true := hN
    rw [decide_eq_false e, Bool.or_false] at t
    exact h c h36 t hc
theorem qx_e {D : Nat → Nat → Bool} {E : (Nat → Int32) → Nat → Int32} {p : Nat} {N : Nat → Bool} {V : Nat → Int32} (h : qx_I D p 0 N) (hV : qx_V D E N V) (hp : 36 ≤ p) {c : Nat} (h36 : c < 36) (hc : qf_c D c = false) : V c = qv_V E c :=
  hV c h36 (h.2 c h36 hc (Or.inl (by have := qf_rb h36 hc; omega))) hc
