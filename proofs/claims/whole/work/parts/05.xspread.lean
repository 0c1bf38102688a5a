/-! X: a spread can be laid out, is laid out; settleSpreads -/
theorem qp_canF {K A B W : Nat → Nat} {s c : Nat} (hc : c < 36) (h : qp_bar K W s (qp_end A B s) c = true) : qp_can K A B W s = false := by
  unfold qp_can
  rw [qe_iff.mpr ⟨c, hc, h⟩]
  exact Bool.and_false _
theorem qp_canN {K A B W : Nat → Nat} {s : Nat} (h : qp_fit A B s = false) : qp_can K A B W s = false := by
  unfold qp_can
  rw [h]; rfl
theorem qp_canT {K A B W : Nat → Nat} {s : Nat} (h : qp_fit A B s = true) (g : ∀ c, c < 36 → qp_bar K W s (qp_end A B s) c = false) : qp_can K A B W s = true := by
  unfold qp_can
  rw [h, qe_f.mpr g]; rfl
theorem qp_barF {K W : Nat → Nat} {s e c : Nat} (h : qp_ins c s e = false) : qp_bar K W s e c = false := by
  unfold qp_bar; rw [h]; rfl
theorem qp_barZ {K W : Nat → Nat} {s e c : Nat} (h : c = s ∨ K c = 0) (g : W c = 0) : qp_bar K W s e c = false := by
  unfold qp_bar
  have e1 : (decide (c ≠ s) && decide (K c ≠ 0)) = false := by
    rcases h with h | h
    · rw [decide_eq_false (by omega)]; rfl
    · rw [decide_eq_false (p := K c ≠ 0) (by omega)]; exact Bool.and_false _
  rw [e1, decide_eq_false (by omega)]
  exact Bool.and_false _
theorem qp_barW {K W : Nat → Nat} {s e c : Nat} (h : qp_ins c s e = true) (g : W c ≠ 0) : qp_bar K W s e c = true := by
  unfold qp_bar
  rw [h, decide_eq_true g, Bool.or_true]; rfl
theorem qp_barK {K W : Nat → Nat} {s e c : Nat} (h : qp_ins c s e = true) (g1 : c ≠ s) (g2 : K c ≠ 0) : qp_bar K W s e c = true := by
  unfold qp_bar
  rw [h, decide_eq_true g1, decide_eq_true g2]; rfl
theorem qa_X {post : Int32 → Prop} (kd nm op fi se th ow sh : Nat → Int32) (dr so : Nat → Int64) (st vl dp : Nat → Int32) {K A B C W : Nat → Nat} (X : qx_C kd fi se th K A B C) (G : qp_G K A B C) (hO : ∀ j, j < 36 → ow j = qp_oi (W j)) (hW : ∀ j, W j ≤ 36) {s : Nat} (hs : s < 36) (hK : K s = 5) (h0 : qp_can K A B W s = false → post 0) (h1 : qp_can K A B W s = true → post 1) : wpX_canOpen post (kd, nm, op, fi, se, th, ow, sh, dr, so, st, vl, dp) (nI s) := by
  have g := G s hs
  have g2 := g.2.2.2.2 (Or.inr hK)
  have gA := g.2.1
  have gB := g.2.2.1
  unfold wpX_canOpen
  dsimp only
  refine qx_h kd nm op fi se th ow sh dr so st vl dp X G hs (Or.inr hK) ?_
  refine qx_w kd nm op fi se th ow sh dr so st vl dp X G hs (Or.inr hK) ?_
  refine qm_X ?_
  rw [nI_pred, nI_pred]
  rcases qm_ok (a := s) hs (nI_toInt (n := B s / 6 - A s / 6) (by omega)) (nI_toInt (n := B s % 6 - A s % 6) (by omega)) (by omega) (by omega) with ⟨b, hb, e, e1, e2⟩ | ⟨e, hn⟩
  · have hf : qp_fit A B s = true := by rw [qp_fitI]; omega
    have he : qp_end A B s = b := by
      unfold qp_end
      omega
    rw [e]
    refine br_f (qn_m1 (by omega)) (qz_cb hs hb (by omega) (by omega) (fun x hx => ?_))
    rw [← he] at hx
    refine loop_0 (fun n i (_ : Unit) => wX_canOpen_43 post (nI s) x kd nm op fi se th ow sh dr so st vl dp n (nI i)) (fun i _ => ∀ c, c < i → qp_bar K W s (qp_end A B s) c = false) 36 () (fun c hc => absurd hc (Nat.not_lt_zero c)) ?_ ?_
    · intro n _ hI
      exact br_t qn_le (h1 (qp_canT hf hI))
    · intro n i _ hi hI IH
      have xi := X i hi
      refine br_f (qn_ge hi) (qh_XB hx hi (fun f => nm_r (nI_1 i) (IH () (lt_s hI (qp_barF f)))) (fun t => ?_))
      have H80 : (i = s ∨ K i = 0) → wX_canOpen_80 post (wX_canOpen_43 post (nI s) x kd nm op fi se th ow sh dr so st vl dp n) (nI s) x (nI i) kd nm op fi se th ow sh dr so st vl dp := by
        intro hz
        refine br_t rfl ⟨qn_in hi, ?_⟩
        rw [qn_cl hi, hO i hi]
        by_cases w : W i = 0
        · exact br_t (by rw [w]; rfl) (nm_r (nI_1 i) (IH () (lt_s hI (qp_barZ hz w))))
        · exact br_f (fun z => w ((qp_oiI (hW i)).mp z)) (h0 (qp_canF hi (qp_barW t w)))
      refine br_c (fun z => H80 (Or.inl ((qn_eq (by omega) (by omega)).mp z))) (fun z => ⟨qn_in hi, ?_⟩)
      have z2 : i ≠ s := fun y => z (by rw [y])
      have gK := (G i hi).1
      rw [qn_cl hi, xi.1]
      by_cases k : K i = 0
      · exact br_t (by rw [k]; rfl) (H80 (Or.inr k))
      · exact br_f (nI_ne0 (by omega) (by omega)) (br_f (by decide) (h0 (qp_canF hi (qp_barK t z2 k))))
  · have hf : qp_fit A B s = false := by
      refine Bool.eq_false_iff.mpr (fun z => ?_)
      rw [qp_fitI] at z
      omega
    rw [e]
    exact br_t rfl (h0 (qp_canN hf))
/-- the cells of the area at s that are filled: rows before r, or row r before column k -/
def qo_p (s e r k j : Nat) : Bool := qp_ins j s e && decide (j / 6 < s / 6 + r ∨ (j / 6 = s / 6 + r ∧ j % 6 < s % 6 + k))
def qo_I (A : Nat → Nat) (s e : Nat) (ow sh : Nat → Int32) (r k : Nat) (t : (Nat → Int32) × (Nat → Int32)) : Prop :=
  ∀ j, j < 36 → t.1 j = (if qo_p s e r k j = true then nI s else ow j) ∧ t.2 j = (if qo_p s e r k j = true then nI (A s + (j - s)) else sh j)
theorem qo_c {A : Nat → Nat} {s e : Nat} {ow sh : Nat → Int32} {r k r' k' : Nat} {t : (Nat → Int32) × (Nat → Int32)} (h : qo_I A s e ow sh r k t) (g : ∀ j, j < 36 → qo_p s e r k j = qo_p s e r' k' j) : qo_I A s e ow sh r' k' t := by
  intro j hj
  rw [← g j hj]
  exact h j hj
theorem qo_X {post : SX → Prop} (kd nm op fi se th ow sh : Nat → Int32) (dr so : Nat → Int64) (st vl dp : Nat → Int32) {K A B C : Nat → Nat} (X : qx_C kd fi se th K A B C) (G : qp_G K A B C) {s : Nat} (hs : s < 36) (hK : K s = 5) (hf : qp_fit A B s = true)
    (h : ∀ ow' sh' : Nat → Int32, (∀ j, j < 36 → ow' j = (if qp_ins j s (qp_end A B s) = true then nI s else ow j) ∧ sh' j = (if qp_ins j s (qp_end A B s) = true then nI (A s + (j - s)) else sh j)) → post (kd, nm, op, fi, se, th, ow', sh', dr, so, st, vl, dp)) : wpX_open post (kd, nm, op, fi, se, th, ow, sh, dr, so, st, vl, dp) (nI s) := by
  have g := G s hs
  have g2 := g.2.2.2.2 (Or.inr hK)
  have gA := g.2.1
  have gB := g.2.2.1
  have xs := X s hs
  have en := qp_endI hf
  have hf2 := qp_fitI.mp hf
  unfold wpX_open
  dsimp only
  refine qx_h kd nm op fi se th ow sh dr so st vl dp X G hs (Or.inr hK) ?_
  refine qx_w kd nm op fi se th ow sh dr so st vl dp X G hs (Or.inr hK) ?_
  generalize qp_end A B s = e at *
  generalize B s / 6 - A s / 6 = hh at *
  generalize B s % 6 - A s % 6 = ww at *
  refine loop_0 (fun n r (t : (Nat → Int32) × (Nat → Int32)) => wX_open_15 post (nI s) (nI (hh + 1)) (nI (ww + 1)) n (nI r) kd nm op fi se th t.1 t.2 dr so st vl dp) (fun r t => qo_I A s e ow sh r 0 t) (hh + 1) (ow, sh) ?_ ?_ ?_
  · intro j hj
    have z : qo_p s e 0 0 j = false := by
      unfold qo_p
      cases hz : qp_ins j s e with
      | false => rfl
      | true =>
        rw [qp_insI] at hz
        rw [decide_eq_false (by omega)]; rfl
    rw [z]
    exact ⟨rfl, rfl⟩
  · intro n t hI
    refine br_t (nI_le (Nat.le_refl _) (by omega)) (h t.1 t.2 (fun j hj => ?_))
    have z : qo_p s e (hh + 1) 0 j = qp_ins j s e := by
      unfold qo_p
      cases hz : qp_ins j s e with
      | false => rfl
      | true =>
        rw [qp_insI] at hz
        rw [decide_eq_true (by omega)]; rfl
    have i := hI j hj
    rw [z] at i
    exact i
  · intro n r t hr hI IH
    refine br_f (nI_ge (by omega) (by omega)) ?_
    refine loop_0 (fun n2 k (t : (Nat → Int32) × (Nat → Int32)) => wX_open_24 post (wX_open_15 post (nI s) (nI (hh + 1)) (nI (ww + 1)) n) (nI s) (nI (hh + 1)) (nI (ww + 1)) (nI r) n2 (nI k) kd nm op fi se th t.1 t.2 dr so st vl dp) (fun k t => qo_I A s e ow sh r k t) (ww + 1) t hI ?_ ?_
    · intro n2 t2 hI2
      refine br_t (nI_le (Nat.le_refl _) (by omega)) (nm_r (nI_1 r) (IH t2 (qo_c hI2 (fun j hj => ?_))))
      unfold qo_p
      cases hz : qp_ins j s e with
      | false => rfl
      | true =>
        rw [qp_insI] at hz
        have q : (j / 6 < s / 6 + r ∨ (j / 6 = s / 6 + r ∧ j % 6 < s % 6 + (ww + 1))) ↔ (j / 6 < s / 6 + (r + 1) ∨ (j / 6 = s / 6 + (r + 1) ∧ j % 6 < s % 6 + 0)) := by omega
        rw [decide_eq_decide.mpr q]
    · intro n2 k t2 hk hI2 IH2
      have hcell : s + 6 * r + k < 36 := by omega
      have ec : (nI s + 6 * nI r) + nI k = nI (s + 6 * r + k) := by rw [qn_6x, nI_add, nI_add]
      refine br_f (nI_ge (by omega) (by omega)) (nm_r ec ⟨qn_in hcell, nm_e ⟨qn_in hs, qn_in hcell, nm_e (nm_r (nI_1 k) (IH2 (upd t2.1 (nI (s + 6 * r + k)).toNatClampNeg (nI s), upd t2.2 (nI (s + 6 * r + k)).toNatClampNeg ((fi (nI s).toNatClampNeg + (6 * nI r)) + nI k)) ?_))⟩⟩)
      intro j hj
      have i := hI2 j hj
      rw [qn_cl hcell, qn_cl hs, xs.2.1, qn_6x, nI_add, nI_add]
      show upd t2.1 (s + 6 * r + k) (nI s) j = _ ∧ upd t2.2 (s + 6 * r + k) (nI (A s + 6 * r + k)) j = _
      by_cases ej : j = s + 6 * r + k
      · have z : qo_p s e r (k + 1) j = true := by
          unfold qo_p
          rw [qp_insT (by omega), decide_eq_true (by omega)]; rfl
        rw [z, if_pos rfl, if_pos rfl, ej, pk_us, pk_us]
        exact ⟨rfl, congrArg nI (by omega)⟩
      · have z : qo_p s e r (k + 1) j = qo_p s e r k j := by
          unfold qo_p
          have q : (j / 6 < s / 6 + r ∨ (j / 6 = s / 6 + r ∧ j % 6 < s % 6 + (k + 1))) ↔ (j / 6 < s / 6 + r ∨ (j / 6 = s / 6 + r ∧ j % 6 < s % 6 + k)) := by omega
          rw [decide_eq_decide.mpr q]
        rw [z, pk_un ej, pk_un ej]
        exact i
theorem qp_owS {K A B : Nat → Nat} {n : Nat} (h : K n = 5 ∧ qp_can K A B (qp_ow K A B n) n = true) (c : Nat) : qp_ow K A B (n + 1) c = if qp_ins c n (qp_end A B n) = true then n + 1 else qp_ow K A B n c := by
  show qp_step K A B n (qp_ow K A B n) c = _
  unfold qp_step
  rw [if_pos h]
theorem qp_owN {K A B : Nat → Nat} {n : Nat} (h : ¬ (K n = 5 ∧ qp_can K A B (qp_ow K A B n) n = true)) : qp_ow K A B (n + 1) = qp_ow K A B n := by
  show qp_step K A B n (qp_ow K A B n) = _
  unfold qp_step
  rw [if_neg h]
def qs_I (K A B : Nat → Nat) (i : Nat) (t : (Nat → Int32) × (Nat → Int32)) : Prop := ∀ j, j < 36 → t.1 j = qp_oi (qp_ow K A B i j) ∧ t.2 j = qp_si A (qp_ow K A B i) j
theorem qs_X {post : SX → Prop} (kd nm op fi se th ow sh : Nat → Int32) (dr so : Nat → Int64) (st vl dp : Nat → Int32) {K A B C : Nat → Nat} (X : qx_C kd fi se th K A B C) (G : qp_G K A B C)
    (h : ∀ ow' sh' : Nat → Int32, (∀ j, j < 36 → ow' j = qp_oi (qp_W K A B j)) → (∀ j, j < 36 → sh' j = qp_si A (qp_W K A B) j) → post (kd, nm, op, fi, se, th, ow', sh', dr, so, st, vl, dp)) : wpX_settleSpreads post (kd, nm, op, fi, se, th, ow, sh, dr, so, st, vl, dp) := by
  refine loop_0 (fun n i (t : (Nat → Int32) × (Nat → Int32)) => wX_settleSpreads_2 post n (nI i) kd nm op fi se th t.1 t.2 dr so st vl dp) (fun i t => ∀ j, j < i → t.1 j = -2 ∧ t.2 j = -2) 36 (ow, sh) (fun j hj => absurd hj (Nat.not_lt_zero j)) ?_ ?_
  · intro n t hI
    refine br_t qn_le ?_
    refine loop_0 (fun n i (t : (Nat → Int32) × (Nat → Int32)) => wX_settleSpreads_32 post n (nI i) kd nm op fi se th t.1 t.2 dr so st vl dp) (fun i t => qs_I K A B i t) 36 t hI ?_ ?_
    · intro n t hI
      exact br_t qn_le (h t.1 t.2 (fun j hj => (hI j hj).1) (fun j hj => (hI j hj).2))
    · intro n i t hi hI IH
      have x := X i hi
      have gK := (G i hi).1
      refine br_f (qn_ge hi) ⟨qn_in hi, ?_⟩
      rw [qn_cl hi, x.1]
      by_cases k5 : K i = 5
      · refine br_t (by rw [k5]; rfl) ?_
        refine qa_X kd nm op fi se th t.1 t.2 dr so st vl dp X G (W := qp_ow K A B i) (fun j hj => (hI j hj).1) (fun j => Nat.le_trans (qp_ow_le K A B i j) (by omega)) hi k5 (fun c => ?_) (fun c => ?_)
        · refine br_t rfl (nm_r (nI_1 i) (IH t ?_))
          have e := qp_owN (K := K) (A := A) (B := B) (n := i) (fun z => by rw [c] at z; exact absurd z.2 (by decide))
          intro j hj
          rw [e]
          exact hI j hj
        · refine br_f (by decide) ?_
          refine qo_X kd nm op fi se th t.1 t.2 dr so st vl dp X G hi k5 (qp_canI c).1 (fun ow' sh' hs' => ?_)
          refine nm_r (nI_1 i) (IH (ow', sh') ?_)
          intro j hj
          have e := qp_owS (K := K) (A := A) (B := B) (n := i) ⟨k5, c⟩ j
          have a := hs' j hj
          have b := hI j hj
          show ow' j = qp_oi (qp_ow K A B (i + 1) j) ∧ sh' j = qp_si A (qp_ow K A B (i + 1)) j
          unfold qp_si qp_sh
          rw [e]
          by_cases z : qp_ins j i (qp_end A B i) = true
          · rw [if_pos z, if_pos z] at a
            rw [if_pos z, if_neg (by omega), a.1, a.2, Nat.add_sub_cancel]
            exact ⟨rfl, rfl⟩
          · rw [if_neg z, if_neg z] at a
            rw [if_neg z, a.1, a.2]
            exact b
      · refine br_f (fun z => k5 ((qn_eq (b := 5) (by omega) (by omega)).mp z)) (nm_r (nI_1 i) (IH t ?_))
        have e := qp_owN (K := K) (A := A) (B := B) (n := i) (fun z => k5 z.1)
        intro j hj
        rw [e]
        exact hI j hj
  · intro n i t hi hI IH
    refine br_f (qn_ge hi) ⟨qn_in hi, nm_e ⟨qn_in hi, nm_e (nm_r (nI_1 i) (IH (upd t.1 (nI i).toNatClampNeg (-2), upd t.2 (nI i).toNatClampNeg (-2)) ?_))⟩⟩
    intro j hj
    rw [qn_cl hi]
    show upd t.1 i (-2) j = -2 ∧ upd t.2 i (-2) j = -2
    by_cases e : j = i
    · subst e; rw [pk_us, pk_us]; exact ⟨rfl, rfl⟩
    · rw [pk_un e, pk_un e]; exact hI j (by omega)
