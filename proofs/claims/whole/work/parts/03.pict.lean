/-! the sheet's pure picture: contents K A B C, owners W (0: none, s + 1: the spread at s), direct sets, states, values -/
def qp_ins (c a b : Nat) : Bool := decide (a / 6 ≤ c / 6 ∧ c / 6 ≤ b / 6 ∧ a % 6 ≤ c % 6 ∧ c % 6 ≤ b % 6)
theorem qp_insI {c a b : Nat} : qp_ins c a b = true ↔ (a / 6 ≤ c / 6 ∧ c / 6 ≤ b / 6 ∧ a % 6 ≤ c % 6 ∧ c % 6 ≤ b % 6) := decide_eq_true_iff
def qp_fit (A B : Nat → Nat) (s : Nat) : Bool := decide (s / 6 + (B s / 6 - A s / 6) < 6 ∧ s % 6 + (B s % 6 - A s % 6) < 6)
theorem qp_fitI {A B : Nat → Nat} {s : Nat} : qp_fit A B s = true ↔ (s / 6 + (B s / 6 - A s / 6) < 6 ∧ s % 6 + (B s % 6 - A s % 6) < 6) := decide_eq_true_iff
def qp_end (A B : Nat → Nat) (s : Nat) : Nat := s + 6 * (B s / 6 - A s / 6) + (B s % 6 - A s % 6)
theorem qp_endI {A B : Nat → Nat} {s : Nat} (h : qp_fit A B s = true) : qp_end A B s / 6 = s / 6 + (B s / 6 - A s / 6) ∧ qp_end A B s % 6 = s % 6 + (B s % 6 - A s % 6) ∧ qp_end A B s < 36 := by
  rw [qp_fitI] at h
  unfold qp_end
  generalize B s / 6 - A s / 6 = y at *
  generalize B s % 6 - A s % 6 = z at *
  omega
/-- a cell of the area bars the spread at s -/
def qp_bar (K W : Nat → Nat) (s e c : Nat) : Bool := qp_ins c s e && ((decide (c ≠ s) && decide (K c ≠ 0)) || decide (W c ≠ 0))
def qp_can (K A B W : Nat → Nat) (s : Nat) : Bool := qp_fit A B s && !qe_x (qp_bar K W s (qp_end A B s)) 36
theorem qp_canI {K A B W : Nat → Nat} {s : Nat} (h : qp_can K A B W s = true) : qp_fit A B s = true ∧ ∀ c, c < 36 → qp_ins c s (qp_end A B s) = true → (c = s ∨ K c = 0) ∧ W c = 0 := by
  unfold qp_can at h
  rw [Bool.and_eq_true, Bool.not_eq_true', qe_f] at h
  refine ⟨h.1, fun c hc hi => ?_⟩
  have t := h.2 c hc
  unfold qp_bar at t
  rw [hi, Bool.true_and, Bool.or_eq_false_iff, Bool.and_eq_false_iff, decide_eq_false_iff_not, decide_eq_false_iff_not, decide_eq_false_iff_not] at t
  omega
def qp_step (K A B : Nat → Nat) (s : Nat) (W : Nat → Nat) : Nat → Nat :=
  if K s = 5 ∧ qp_can K A B W s = true then (fun c => if qp_ins c s (qp_end A B s) = true then s + 1 else W c) else W
def qp_ow (K A B : Nat → Nat) : Nat → Nat → Nat
  | 0 => fun _ => 0
  | n + 1 => qp_step K A B n (qp_ow K A B n)
theorem qp_ow_le (K A B : Nat → Nat) : ∀ n c, qp_ow K A B n c ≤ n
  | 0, _ => Nat.le_refl _
  | n + 1, c => by
    have h := qp_ow_le K A B n c
    show qp_step K A B n (qp_ow K A B n) c ≤ n + 1
    unfold qp_step
    split
    · show (if qp_ins c n (qp_end A B n) = true then n + 1 else qp_ow K A B n c) ≤ n + 1
      split <;> omega
    · omega
/-- good contents -/
def qp_G (K A B C : Nat → Nat) : Prop := ∀ j, j < 36 → K j ≤ 6 ∧ A j < 36 ∧ B j < 36 ∧ C j < 36 ∧ (K j = 3 ∨ K j = 5 → A j / 6 ≤ B j / 6 ∧ A j % 6 ≤ B j % 6)
theorem qp_inv (K A B : Nat → Nat) : ∀ n c, c < 36 → qp_ow K A B n c = 0 ∨ ∃ s, s < n ∧ qp_ow K A B n c = s + 1 ∧ K s = 5 ∧ qp_fit A B s = true ∧ qp_ins c s (qp_end A B s) = true ∧ (c = s ∨ K c = 0)
  | 0, _, _ => Or.inl rfl
  | n + 1, c, hc => by
    have ih := qp_inv K A B n c hc
    have up : qp_ow K A B n c = 0 ∨ ∃ s, s < n + 1 ∧ qp_ow K A B n c = s + 1 ∧ K s = 5 ∧ qp_fit A B s = true ∧ qp_ins c s (qp_end A B s) = true ∧ (c = s ∨ K c = 0) := by
      rcases ih with h | ⟨s, hs, h⟩
      · exact Or.inl h
      · exact Or.inr ⟨s, by omega, h⟩
    show qp_step K A B n (qp_ow K A B n) c = 0 ∨ ∃ s, s < n + 1 ∧ qp_step K A B n (qp_ow K A B n) c = s + 1 ∧ _
    unfold qp_step
    by_cases hk : K n = 5 ∧ qp_can K A B (qp_ow K A B n) n = true
    · rw [if_pos hk]
      by_cases hi : qp_ins c n (qp_end A B n) = true
      · have g := qp_canI hk.2
        refine Or.inr ⟨n, by omega, if_pos hi, hk.1, g.1, hi, (g.2 c hc hi).1⟩
      · have e : (if qp_ins c n (qp_end A B n) = true then n + 1 else qp_ow K A B n c) = qp_ow K A B n c := if_neg hi
        show (if qp_ins c n (qp_end A B n) = true then n + 1 else qp_ow K A B n c) = 0 ∨ ∃ s, s < n + 1 ∧ (if qp_ins c n (qp_end A B n) = true then n + 1 else qp_ow K A B n c) = s + 1 ∧ _
        rw [e]
        exact up
    · rw [if_neg hk]
      exact up
/-- the owners, at the end -/
def qp_W (K A B : Nat → Nat) : Nat → Nat := qp_ow K A B 36
def qp_sh (A W : Nat → Nat) (c : Nat) : Nat := A (W c - 1) + (c - (W c - 1))
/-- what is known of an owned cell -/
theorem qp_own {K A B C : Nat → Nat} (G : qp_G K A B C) {n c : Nat} (hn : n ≤ 36) (hc : c < 36) (h : qp_ow K A B n c ≠ 0) : ∃ s, s < n ∧ qp_ow K A B n c = s + 1 ∧ K s = 5 ∧ (c = s ∨ K c = 0) ∧ qp_ins c s (qp_end A B s) = true ∧ qp_fit A B s = true ∧ qp_sh A (qp_ow K A B n) c = A s + (c - s) ∧ A s + (c - s) < 36 ∧ (A s + (c - s)) / 6 = A s / 6 + (c / 6 - s / 6) ∧ (A s + (c - s)) % 6 = A s % 6 + (c % 6 - s % 6) ∧ s / 6 ≤ c / 6 ∧ s % 6 ≤ c % 6 ∧ A s < 36 := by
  rcases qp_inv K A B n c hc with h0 | ⟨s, hs, h1, h2, h3, h4, h5⟩
  · exact absurd h0 h
  · have g := G s (by omega)
    have e := qp_endI h3
    have i := qp_insI.mp h4
    have g2 := g.2.2.2.2 (Or.inr h2)
    refine ⟨s, hs, h1, h2, h5, h4, h3, ?_, ?_⟩
    · unfold qp_sh
      rw [h1, Nat.add_sub_cancel]
    · have gA := g.2.1
      have gB := g.2.2.1
      rw [e.1, e.2.1] at i
      generalize A s = a at *
      generalize B s = b at *
      omega
def qp_D (K A B C W : Nat → Nat) (c d : Nat) : Bool :=
  if W c ≠ 0 then decide (d = qp_sh A W c) else if K c = 2 then decide (d = A c) || decide (d = B c) else if K c = 3 then qp_ins d (A c) (B c) else if K c = 4 then decide (d = A c) || decide (d = B c) || decide (d = C c) else false
theorem qp_D_sh {K A B C W : Nat → Nat} {c : Nat} (h : W c ≠ 0) (d : Nat) : qp_D K A B C W c d = decide (d = qp_sh A W c) := if_pos h
theorem qp_D_2 {K A B C W : Nat → Nat} {c : Nat} (h : W c = 0) (k : K c = 2) (d : Nat) : qp_D K A B C W c d = (decide (d = A c) || decide (d = B c)) := by
  unfold qp_D; rw [if_neg (by omega), if_pos k]
theorem qp_D_3 {K A B C W : Nat → Nat} {c : Nat} (h : W c = 0) (k : K c = 3) (d : Nat) : qp_D K A B C W c d = qp_ins d (A c) (B c) := by
  unfold qp_D; rw [if_neg (by omega), if_neg (by omega), if_pos k]
theorem qp_D_4 {K A B C W : Nat → Nat} {c : Nat} (h : W c = 0) (k : K c = 4) (d : Nat) : qp_D K A B C W c d = (decide (d = A c) || decide (d = B c) || decide (d = C c)) := by
  unfold qp_D; rw [if_neg (by omega), if_neg (by omega), if_neg (by omega), if_pos k]
theorem qp_D_n {K A B C W : Nat → Nat} {c : Nat} (h : W c = 0) (k : K c ≠ 2 ∧ K c ≠ 3 ∧ K c ≠ 4) (d : Nat) : qp_D K A B C W c d = false := by
  unfold qp_D; rw [if_neg (by omega), if_neg k.1, if_neg k.2.1, if_neg k.2.2]
/-- owner and shown as the arrays hold them -/
def qp_oi (w : Nat) : Int32 := if w = 0 then -2 else nI (w - 1)
def qp_si (A W : Nat → Nat) (c : Nat) : Int32 := if W c = 0 then -2 else nI (qp_sh A W c)
theorem qp_oi0 : qp_oi 0 = -2 := rfl
theorem qp_oi1 (s : Nat) : qp_oi (s + 1) = nI s := rfl
theorem qp_oiI {w : Nat} (h : w ≤ 36) : qp_oi w = -2 ↔ w = 0 := by
  unfold qp_oi
  by_cases e : w = 0
  · rw [if_pos e]; exact ⟨fun _ => e, fun _ => rfl⟩
  · rw [if_neg e]
    exact ⟨fun z => absurd z (qn_m2 (by omega)), fun z => absurd z e⟩
theorem qp_oiL {w : Nat} (h : w ≤ 36) : qp_oi w < 0 ↔ w = 0 := by
  unfold qp_oi
  by_cases e : w = 0
  · rw [if_pos e]; exact ⟨fun _ => e, fun _ => by decide⟩
  · rw [if_neg e]
    exact ⟨fun z => absurd z (nI_pos (by omega)), fun z => absurd z e⟩
theorem qp_oiP {w : Nat} (h : w ≤ 36) : 0 ≤ qp_oi w ↔ w ≠ 0 := by
  unfold qp_oi
  by_cases e : w = 0
  · rw [if_pos e]; exact ⟨fun z => absurd z (by decide), fun z => absurd e z⟩
  · rw [if_neg e]
    exact ⟨fun _ => e, fun _ => nI_pos' (by omega)⟩
theorem qp_oiE {w c : Nat} (h : w ≤ 36) (hc : c < 36) : qp_oi w = nI c ↔ w = c + 1 := by
  unfold qp_oi
  by_cases e : w = 0
  · rw [if_pos e]; exact ⟨fun z => absurd z.symm (qn_m2 (by omega)), fun z => by omega⟩
  · rw [if_neg e, qn_eq (by omega) (by omega)]; omega
/-- spoilt, states -/
def qp_sp (K W : Nat → Nat) (c : Nat) : Bool := decide (K c = 6 ∨ (K c = 5 ∧ W c = 0))
theorem qp_spI {K W : Nat → Nat} {c : Nat} : qp_sp K W c = true ↔ (K c = 6 ∨ (K c = 5 ∧ W c = 0)) := decide_eq_true_iff
def qp_bad (D : Nat → Nat → Bool) (K W : Nat → Nat) (c : Nat) : Bool := qp_sp K W c || qe_x (fun d => qf_F D c d && qp_sp K W d) 36
def qp_st (D : Nat → Nat → Bool) (K W : Nat → Nat) (c : Nat) : Nat :=
  if qf_c D c = true then 2 else if qp_bad D K W c = true then 3 else if K c = 0 ∧ W c = 0 then 0 else 1
theorem qp_st_le (D : Nat → Nat → Bool) (K W : Nat → Nat) (c : Nat) : qp_st D K W c ≤ 3 := by
  unfold qp_st
  split
  · omega
  · split
    · omega
    · split <;> omega
theorem qp_st2 {D : Nat → Nat → Bool} {K W : Nat → Nat} {c : Nat} : qp_st D K W c = 2 ↔ qf_c D c = true := by
  unfold qp_st
  by_cases h : qf_c D c = true
  · rw [if_pos h]; exact ⟨fun _ => h, fun _ => rfl⟩
  · rw [if_neg h]
    refine ⟨fun z => ?_, fun z => absurd z h⟩
    split at z
    · omega
    · split at z <;> omega
/-- at a valued cell: an owned one, or a kind that has a value -/
theorem qp_st1 {D : Nat → Nat → Bool} {K W : Nat → Nat} {c : Nat} (hK : K c ≤ 6) (h : qp_st D K W c = 1) : W c ≠ 0 ∨ K c = 1 ∨ K c = 2 ∨ K c = 3 ∨ K c = 4 := by
  by_cases h1 : qf_c D c = true
  · rw [qp_st2.mpr h1] at h; omega
  · unfold qp_st at h
    rw [if_neg h1] at h
    by_cases h2 : qp_bad D K W c = true
    · rw [if_pos h2] at h; omega
    · rw [if_neg h2] at h
      by_cases h3 : K c = 0 ∧ W c = 0
      · rw [if_pos h3] at h; omega
      · have h4 : ¬ qp_sp K W c = true := by
          intro z
          apply h2
          unfold qp_bad
          rw [z]; rfl
        rw [qp_spI] at h4
        omega
/-- sums and maxima as the loops run -/
def qs_m (P : Nat → Bool) (V : Nat → Int32) : Nat → Int32
  | 0 => 0
  | n + 1 => if P n = true then qs_m P V n + V n else qs_m P V n
def qd_m (P : Nat → Bool) (V : Nat → Int32) : Nat → Int32
  | 0 => 0
  | n + 1 => if P n = true then (if V n ≤ qd_m P V n then qd_m P V n else V n) else qd_m P V n
theorem qs_c {P Q : Nat → Bool} {V V' : Nat → Int32} : ∀ {n : Nat}, (∀ i, i < n → P i = Q i) → (∀ i, i < n → P i = true → V i = V' i) → qs_m P V n = qs_m Q V' n
  | 0, _, _ => rfl
  | n + 1, h, g => by
    have ih := qs_c (n := n) (fun i hi => h i (by omega)) (fun i hi => g i (by omega))
    show (if P n = true then qs_m P V n + V n else qs_m P V n) = (if Q n = true then qs_m Q V' n + V' n else qs_m Q V' n)
    rw [ih, ← h n (by omega)]
    by_cases p : P n = true
    · rw [if_pos p, if_pos p, g n (by omega) p]
    · rw [if_neg p, if_neg p]
theorem qd_c {P Q : Nat → Bool} {V V' : Nat → Int32} : ∀ {n : Nat}, (∀ i, i < n → P i = Q i) → (∀ i, i < n → P i = true → V i = V' i) → qd_m P V n = qd_m Q V' n
  | 0, _, _ => rfl
  | n + 1, h, g => by
    have ih := qd_c (n := n) (fun i hi => h i (by omega)) (fun i hi => g i (by omega))
    show (if P n = true then (if V n ≤ qd_m P V n then qd_m P V n else V n) else qd_m P V n) = (if Q n = true then (if V' n ≤ qd_m Q V' n then qd_m Q V' n else V' n) else qd_m Q V' n)
    rw [ih, ← h n (by omega)]
    by_cases p : P n = true
    · rw [if_pos p, if_pos p, g n (by omega) p]
    · rw [if_neg p, if_neg p]
def qk_f (o a b : Int32) : Int32 := if o = 0 then a + b else if o = 1 then a - b else if o = 2 then a * b else if o = 3 then (if b ≤ a then b else a) else (if a ≤ b then b else a)
/-- what a valued cell is worth -/
def qp_ev (K A B C W : Nat → Nat) (N O : Nat → Int32) (V : Nat → Int32) (c : Nat) : Int32 :=
  if W c ≠ 0 then V (qp_sh A W c) else if K c = 1 then N c else if K c = 2 then qk_f (O c) (V (A c)) (V (B c)) else if K c = 4 then (if V (A c) ≤ 0 then V (C c) else V (B c)) else if K c = 3 then qs_m (fun d => qp_ins d (A c) (B c)) V 36 else 0
def qp_E (D : Nat → Nat → Bool) (K A B C W : Nat → Nat) (N O : Nat → Int32) (V : Nat → Int32) (c : Nat) : Int32 := if qp_st D K W c = 1 then qp_ev K A B C W N O V c else 0
def qp_P (D : Nat → Nat → Bool) (V : Nat → Int32) (c : Nat) : Int32 := 1 + qd_m (D c) V 36
theorem qp_PL (D : Nat → Nat → Bool) : qv_L D (qp_P D) := by
  intro V V' c _ h
  unfold qp_P
  rw [qd_c (fun _ _ => rfl) h]
theorem qp_evL {K A B C : Nat → Nat} (G : qp_G K A B C) {N O V V' : Nat → Int32} {c : Nat} (hc : c < 36) (h : ∀ d, d < 36 → qp_D K A B C (qp_W K A B) c d = true → V d = V' d) : qp_ev K A B C (qp_W K A B) N O V c = qp_ev K A B C (qp_W K A B) N O V' c := by
  have g := G c hc
  unfold qp_ev
  by_cases hW : qp_W K A B c ≠ 0
  · rw [if_pos hW, if_pos hW]
    obtain ⟨s, hs, e1, e2, e3, e4, e5, e6, e7, _⟩ := qp_own G (Nat.le_refl 36) hc hW
    have e6' : qp_sh A (qp_W K A B) c = A s + (c - s) := e6
    refine h _ (by rw [e6']; exact e7) ?_
    rw [qp_D_sh hW]
    exact decide_eq_true rfl
  · rw [if_neg hW, if_neg hW]
    have hW0 : qp_W K A B c = 0 := by omega
    by_cases k1 : K c = 1
    · rw [if_pos k1, if_pos k1]
    · rw [if_neg k1, if_neg k1]
      by_cases k2 : K c = 2
      · rw [if_pos k2, if_pos k2, h (A c) g.2.1 (by rw [qp_D_2 hW0 k2, decide_eq_true rfl]; rfl), h (B c) g.2.2.1 (by rw [qp_D_2 hW0 k2, decide_eq_true (rfl : B c = B c), Bool.or_true])]
      · rw [if_neg k2, if_neg k2]
        by_cases k4 : K c = 4
        · rw [if_pos k4, if_pos k4, h (A c) g.2.1 (by rw [qp_D_4 hW0 k4, decide_eq_true (rfl : A c = A c)]; rfl), h (B c) g.2.2.1 (by rw [qp_D_4 hW0 k4, decide_eq_true (rfl : B c = B c), Bool.or_true]; rfl), h (C c) g.2.2.2.1 (by rw [qp_D_4 hW0 k4, decide_eq_true (rfl : C c = C c), Bool.or_true])]
        · rw [if_neg k4, if_neg k4]
          by_cases k3 : K c = 3
          · rw [if_pos k3, if_pos k3]
            refine qs_c (fun _ _ => rfl) (fun i hi p => h i hi ?_)
            rw [qp_D_3 hW0 k3]
            exact p
          · rw [if_neg k3, if_neg k3]
theorem qp_EL {K A B C : Nat → Nat} (G : qp_G K A B C) (N O : Nat → Int32) : qv_L (qp_D K A B C (qp_W K A B)) (qp_E (qp_D K A B C (qp_W K A B)) K A B C (qp_W K A B) N O) := by
  intro V V' c hc h
  unfold qp_E
  by_cases hs : qp_st (qp_D K A B C (qp_W K A B)) K (qp_W K A B) c = 1
  · rw [if_pos hs, if_pos hs, qp_evL G hc h]
  · rw [if_neg hs, if_neg hs]
