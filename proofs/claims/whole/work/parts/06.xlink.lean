/-! X: namedByFormula, linkCells, closeLinks, judgeStates -/
theorem qp_shL {K A B C : Nat → Nat} (G : qp_G K A B C) {c : Nat} (hc : c < 36) (h : qp_W K A B c ≠ 0) : qp_sh A (qp_W K A B) c < 36 := by
  obtain ⟨s, hs, e1, e2, e3, e4, e5, e6, e7, _⟩ := qp_own G (Nat.le_refl 36) hc h
  have e6' : qp_sh A (qp_W K A B) c = A s + (c - s) := e6
  rw [e6']; exact e7
theorem qp_siI {K A B C : Nat → Nat} (G : qp_G K A B C) {c : Nat} (hc : c < 36) : qp_si A (qp_W K A B) c = -2 ↔ qp_W K A B c = 0 := by
  unfold qp_si
  by_cases e : qp_W K A B c = 0
  · rw [if_pos e]; exact ⟨fun _ => e, fun _ => rfl⟩
  · rw [if_neg e]
    exact ⟨fun z => absurd z (qn_m2 (by have := qp_shL G hc e; omega)), fun z => absurd z e⟩
theorem qp_si1 {A W : Nat → Nat} {c : Nat} (h : W c ≠ 0) : qp_si A W c = nI (qp_sh A W c) := if_neg h
theorem qp_Wle (K A B : Nat → Nat) (c : Nat) : qp_W K A B c ≤ 36 := qp_ow_le K A B 36 c
theorem qf_X {post : Int64 → Prop} (kd nm op fi se th ow sh : Nat → Int32) (dr so : Nat → Int64) (st vl dp : Nat → Int32) {K A B C W : Nat → Nat} (X : qx_C kd fi se th K A B C) (G : qp_G K A B C) {c : Nat} (hc : c < 36) (hW : W c = 0) (h : ∀ x, qb_m x (qp_D K A B C W c) → post x) : wpX_namedByFormula post (kd, nm, op, fi, se, th, ow, sh, dr, so, st, vl, dp) (nI c) := by
  have g := G c hc
  have x := X c hc
  have e0 : kd (nI c).toNatClampNeg = nI (K c) := by rw [qn_cl hc, x.1]
  refine ⟨qn_in hc, nm_r e0 ?_⟩
  rw [qn_cl hc, x.2.1, x.2.2.1, x.2.2.2]
  refine br_c (fun z => ?_) (fun z => br_c (fun y => ?_) (fun y => br_c (fun k => ?_) (fun k2 => br_c (fun k => ?_) (fun k3 => br_c (fun k => ?_) (fun _ => trivial)))))
  · have z2 : K c < 2 := (qn_lt (b := 2) (by omega) (by omega)).mp z
    exact h 0 (qb_mc qb_m0 (fun i _ => (qp_D_n hW (by omega) i).symm))
  · have z2 : 4 < K c := (qn_lt (a := 4) (by omega) (by omega)).mp y
    exact h 0 (qb_mc qb_m0 (fun i _ => (qp_D_n hW (by omega) i).symm))
  · have k' : K c = 2 := (qn_eq (b := 2) (by omega) (by omega)).mp k
    exact ⟨qn_in hc, qn_in hc, h _ (qb_mc (qb_mor (qb_m1c g.2.1) (qb_m1c g.2.2.1)) (fun i _ => (qp_D_2 hW k' i).symm))⟩
  · have k' : K c = 3 := (qn_eq (b := 3) (by omega) (by omega)).mp k
    have g3 := g.2.2.2.2 (Or.inl k')
    exact ⟨qn_in hc, qn_in hc, qz_cb g.2.1 g.2.2.1 g3.1 g3.2 (fun x hx => h x (qb_mc hx (fun i _ => (qp_D_3 hW k' i).symm)))⟩
  · have k' : K c = 4 := (qn_eq (b := 4) (by omega) (by omega)).mp k
    exact ⟨qn_in hc, qn_in hc, qn_in hc, h _ (qb_mc (qb_mor (qb_mor (qb_m1c g.2.1) (qb_m1c g.2.2.1)) (qb_m1c g.2.2.2.1)) (fun i _ => (qp_D_4 hW k' i).symm))⟩
theorem ql_up {P : Nat → Int64 → Prop} {d : Nat → Int64} {i : Nat} {y : Int64} (hi : i < 36) (h : ∀ j, j < i → P j (d j)) (hy : P i y) : ∀ j, j < i + 1 → P j (vp_updL d (nI i).toNatClampNeg y j) := by
  intro j hj
  rw [qn_cl hi]
  by_cases e : j = i
  · subst e; rw [pk_uLs]; exact hy
  · rw [pk_uLn e]; exact h j (by omega)
theorem ql_X {post : SX → Prop} (kd nm op fi se th ow sh : Nat → Int32) (dr so : Nat → Int64) (st vl dp : Nat → Int32) {K A B C : Nat → Nat} (X : qx_C kd fi se th K A B C) (G : qp_G K A B C) (hS : ∀ j, j < 36 → sh j = qp_si A (qp_W K A B) j)
    (h : ∀ dr' : Nat → Int64, (∀ j, j < 36 → qb_m (dr' j) (qp_D K A B C (qp_W K A B) j)) → post (kd, nm, op, fi, se, th, ow, sh, dr', so, st, vl, dp)) : wpX_linkCells post (kd, nm, op, fi, se, th, ow, sh, dr, so, st, vl, dp) := by
  refine loop_0 (fun n i (d : Nat → Int64) => wX_linkCells_2 post n (nI i) kd nm op fi se th ow sh d so st vl dp) (fun i d => ∀ j, j < i → qb_m (d j) (qp_D K A B C (qp_W K A B) j)) 36 dr (fun j hj => absurd hj (Nat.not_lt_zero j)) ?_ ?_
  · intro n d hI
    exact br_t qn_le (h d hI)
  · intro n i d hi hI IH
    refine br_f (qn_ge hi) ⟨qn_in hi, ?_⟩
    rw [qn_cl hi, hS i hi]
    refine ek_if (qp_siI G hi) (fun w => ?_) (fun w => ?_)
    · refine qf_X kd nm op fi se th ow sh d so st vl dp X G hi w (fun x hx => ⟨qn_in hi, nm_e (nm_r (nI_1 i) (IH _ ?_))⟩)
      have u := ql_up (P := fun j y => qb_m y (qp_D K A B C (qp_W K A B) j)) (y := x) hi hI hx
      rw [qn_cl hi] at u
      exact u
    · refine ⟨qn_in hi, qn_in hi, nm_e (nm_r (nI_1 i) (IH _ ?_))⟩
      rw [qp_si1 w]
      have u := ql_up (P := fun j y => qb_m y (qp_D K A B C (qp_W K A B) j)) (y := (1 : Int64) <<< ((nI (qp_sh A (qp_W K A B) i)).toInt64 &&& 63)) hi hI (qb_mc (qb_m1c (qp_shL G hi w)) (fun k _ => (qp_D_sh w k).symm))
      rw [qn_cl hi] at u
      exact u
theorem qw_mm (D : Nat → Nat → Bool) (m d : Nat) : qw_m D (m + 1) m d = qw_m D m m d := by
  rw [qw_s]
  cases qw_m D m m d <;> cases qw_m D m m m <;> rfl
/-- in the round of the middle m the cells below i are through -/
def qc_I (D : Nat → Nat → Bool) (m i : Nat) (s : Nat → Int64) : Prop := ∀ j, j < 36 → qb_m (s j) (if j < i then qw_m D (m + 1) j else qw_m D m j)
theorem qc_X {post : SX → Prop} (kd nm op fi se th ow sh : Nat → Int32) (dr so : Nat → Int64) (st vl dp : Nat → Int32) {D : Nat → Nat → Bool} (hD : ∀ j, j < 36 → qb_m (dr j) (D j))
    (h : ∀ so' : Nat → Int64, (∀ j, j < 36 → qb_m (so' j) (qf_F D j)) → post (kd, nm, op, fi, se, th, ow, sh, dr, so', st, vl, dp)) : wpX_closeLinks post (kd, nm, op, fi, se, th, ow, sh, dr, so, st, vl, dp) := by
  refine loop_0 (fun n i (d : Nat → Int64) => wX_closeLinks_2 post n (nI i) kd nm op fi se th ow sh dr d st vl dp) (fun i d => ∀ j, j < i → qb_m (d j) (D j)) 36 so (fun j hj => absurd hj (Nat.not_lt_zero j)) ?_ ?_
  · intro n d hI
    refine br_t qn_le ?_
    refine loop_0 (fun n m (d : Nat → Int64) => wX_closeLinks_28 post n (nI m) kd nm op fi se th ow sh dr d st vl dp) (fun m d => ∀ j, j < 36 → qb_m (d j) (qw_m D m j)) 36 d hI ?_ ?_
    · intro n d hI
      exact br_t qn_le (h d hI)
    · intro n m d hm hI IH
      refine br_f (qn_ge hm) ?_
      refine loop_0 (fun n2 i (d : Nat → Int64) => wX_closeLinks_36 post (wX_closeLinks_28 post n) (nI m) n2 (nI i) kd nm op fi se th ow sh dr d st vl dp) (fun i d => qc_I D m i d) 36 d (fun j hj => ?_) ?_ ?_
      · rw [if_neg (Nat.not_lt_zero j)]
        exact hI j hj
      · intro n2 d2 hI2
        refine br_t qn_le (nm_r (nI_1 m) (IH d2 (fun j hj => ?_)))
        have z := hI2 j hj
        rw [if_pos hj] at z
        exact z
      · intro n2 i d2 hi hI2 IH2
        have zi := hI2 i hi
        rw [if_neg (Nat.lt_irrefl i)] at zi
        have zm : qb_m (d2 m) (qw_m D m m) := by
          have z := hI2 m hm
          by_cases e : m < i
          · rw [if_pos e] at z
            exact qb_mc z (fun k _ => qw_mm D m k)
          · rw [if_neg e] at z
            exact z
        refine br_f (qn_ge hi) ⟨qn_in hi, ?_⟩
        rw [qn_cl hi, qn_cl hm]
        refine qh_XB zi hm (fun f => nm_r (nI_1 i) (IH2 d2 (fun j hj => ?_))) (fun t => ⟨qn_in hi, qn_in hm, qn_in hi, nm_e (nm_r (nI_1 i) (IH2 _ (fun j hj => ?_)))⟩)
        · by_cases e : j = i
          · subst e
            rw [if_pos (Nat.lt_succ_self j)]
            refine qb_mc zi (fun k _ => ?_)
            rw [qw_s, f, Bool.false_and, Bool.or_false]
          · have z := hI2 j hj
            by_cases e2 : j < i
            · rw [if_pos e2] at z; rw [if_pos (by omega)]; exact z
            · rw [if_neg e2] at z; rw [if_neg (by omega)]; exact z
        · by_cases e : j = i
          · subst e
            rw [if_pos (Nat.lt_succ_self j), pk_uLs]
            refine qb_mc (qb_mor zi zm) (fun k _ => ?_)
            rw [qw_s, t, Bool.true_and]
          · rw [pk_uLn e]
            have z := hI2 j hj
            by_cases e2 : j < i
            · rw [if_pos e2] at z; rw [if_pos (by omega)]; exact z
            · rw [if_neg e2] at z; rw [if_neg (by omega)]; exact z
  · intro n i d hi hI IH
    refine br_f (qn_ge hi) ⟨qn_in hi, qn_in hi, nm_e (nm_r (nI_1 i) (IH _ ?_))⟩
    refine ql_up (P := fun j y => qb_m y (D j)) hi hI ?_
    rw [qn_cl hi]
    exact hD i hi
theorem qj_i {P : Nat → Bool} {x : Int64} {i : Nat} (h : qb_m x (fun d => decide (d < i) && P d)) (f : P i = false) : qb_m x (fun d => decide (d < i + 1) && P d) := by
  refine qb_mc h (fun k _ => ?_)
  by_cases e : k = i
  · subst e; rw [f, Bool.and_false, Bool.and_false]
  · have q : (k < i) ↔ (k < i + 1) := by omega
    rw [decide_eq_decide.mpr q]
theorem qj_t {P : Nat → Bool} {x : Int64} {i : Nat} (hi : i < 36) (h : qb_m x (fun d => decide (d < i) && P d)) (t : P i = true) : qb_m (x ||| ((1 : Int64) <<< ((nI i).toInt64 &&& 63))) (fun d => decide (d < i + 1) && P d) := by
  refine qb_mc (qb_ms hi h) (fun k _ => ?_)
  by_cases e : k = i
  · subst e; rw [t, decide_eq_true rfl, Bool.or_true, decide_eq_true (Nat.lt_succ_self k)]; rfl
  · have q : (k < i) ↔ (k < i + 1) := by omega
    rw [decide_eq_decide.mpr q, decide_eq_false e, Bool.or_false]
theorem qj_36 {post : SX → Prop} {J : Int64 → Int64 → Int32 → Prop} (kd nm op fi se th ow sh : Nat → Int32) (dr so : Nat → Int64) (st vl dp : Nat → Int32) {K A B C W : Nat → Nat} (X : qx_C kd fi se th K A B C) (G : qp_G K A B C) (hO : ∀ j, j < 36 → ow j = qp_oi (W j)) (hW : ∀ j, W j ≤ 36) {i : Nat} (hi : i < 36) {x1 x3 : Int64} (h3 : qb_m x3 (fun d => decide (d < i) && qp_sp K W d))
    (h : ∀ y, qb_m y (fun d => decide (d < i + 1) && qp_sp K W d) → J x1 y (nI (i + 1))) : wX_judgeStates_36 post J x1 x3 (nI i) kd nm op fi se th ow sh dr so st vl dp := by
  have g := (G i hi).1
  have x := X i hi
  have H83 : qp_sp K W i = true → wX_judgeStates_83 post J x1 x3 (nI i) kd nm op fi se th ow sh dr so st vl dp := fun t => nm_e (nm_r (nI_1 i) (h _ (qj_t hi h3 t)))
  have H63 : ¬ (K i = 5 ∧ W i = 0) → wX_judgeStates_63 post J x1 x3 (nI i) kd nm op fi se th ow sh dr so st vl dp := by
    intro hn
    refine br_t rfl ⟨qn_in hi, ?_⟩
    rw [qn_cl hi, x.1]
    refine br_c (fun z => H83 ?_) (fun z => nm_r (nI_1 i) (h _ (qj_i h3 ?_)))
    · exact qp_spI.mpr (Or.inl ((qn_eq (b := 6) (by omega) (by omega)).mp z))
    · refine Bool.eq_false_iff.mpr (fun y => ?_)
      rcases qp_spI.mp y with y | y
      · exact z (by rw [y]; rfl)
      · exact hn y
  refine ⟨qn_in hi, ?_⟩
  rw [qn_cl hi, x.1, hO i hi]
  refine br_c (fun z => ⟨qn_in hi, ek_if (qp_oiI (hW i)) (fun w => ?_) (fun w => H63 (fun y => w y.2))⟩) (fun z => H63 (fun y => z (by rw [y.1]; rfl)))
  exact br_f (by decide) (H83 (qp_spI.mpr (Or.inr ⟨(qn_eq (b := 5) (by omega) (by omega)).mp z, w⟩)))
theorem qj_X {post : SX → Prop} (kd nm op fi se th ow sh : Nat → Int32) (dr so : Nat → Int64) (st vl dp : Nat → Int32) {K A B C : Nat → Nat} {D : Nat → Nat → Bool} (X : qx_C kd fi se th K A B C) (G : qp_G K A B C) (hO : ∀ j, j < 36 → ow j = qp_oi (qp_W K A B j)) (hS : ∀ j, j < 36 → sh j = qp_si A (qp_W K A B) j) (hF : ∀ j, j < 36 → qb_m (so j) (qf_F D j))
    (h : ∀ st' : Nat → Int32, (∀ j, j < 36 → st' j = nI (qp_st D K (qp_W K A B) j)) → post (kd, nm, op, fi, se, th, ow, sh, dr, so, st', vl, dp)) : wpX_judgeStates post (kd, nm, op, fi, se, th, ow, sh, dr, so, st, vl, dp) := by
  refine loop_0 (fun n i (t : Int64 × Int64) => wX_judgeStates_7 post kd nm op fi se th ow sh dr so st vl dp n t.1 t.2 (nI i)) (fun i t => qb_m t.1 (fun d => decide (d < i) && qf_F D d d) ∧ qb_m t.2 (fun d => decide (d < i) && qp_sp K (qp_W K A B) d)) 36 (0, 0) ?_ ?_ ?_
  · exact ⟨qb_mc qb_m0 (fun k _ => rfl), qb_mc qb_m0 (fun k _ => rfl)⟩
  · intro n t hI
    refine br_t qn_le ?_
    refine loop_0 (fun n i (s : Nat → Int32) => wX_judgeStates_99 post t.1 t.2 n (nI i) kd nm op fi se th ow sh dr so s vl dp) (fun i s => ∀ j, j < i → s j = nI (qp_st D K (qp_W K A B) j)) 36 st (fun j hj => absurd hj (Nat.not_lt_zero j)) ?_ ?_
    · intro n s hI2
      exact br_t qn_le (h s hI2)
    · intro n i s hi hI2 IH
      have g := (G i hi).1
      have x := X i hi
      have m1 := qb_mc hI.1 (Q := fun d => qf_F D d d) (fun k hk => by rw [decide_eq_true hk, Bool.true_and])
      have m3 := qb_mc hI.2 (Q := fun d => qp_sp K (qp_W K A B) d) (fun k hk => by rw [decide_eq_true hk, Bool.true_and])
      have m6 := qb_ms hi (hF i hi)
      have key : ∀ v : Int32, v = nI (qp_st D K (qp_W K A B) i) → (vp_in (nI i) 36 ∧ ∀ a, a = upd s i v → ∀ y, y = nI i + 1 → wX_judgeStates_99 post t.1 t.2 n y kd nm op fi se th ow sh dr so a vl dp) := by
        intro v hv
        refine ⟨qn_in hi, nm_e (nm_r (nI_1 i) (IH _ (fun j hj => ?_)))⟩
        by_cases e : j = i
        · subst e; rw [pk_us]; exact hv
        · rw [pk_un e]; exact hI2 j (by omega)
      have c1 : ((so i ||| ((1 : Int64) <<< ((nI i).toInt64 &&& 63))) &&& t.1) = 0 ↔ qf_c D i = false := by
        rw [qb_an m6 m1, qf_nc]
        constructor
        · intro a
          exact ⟨a i hi (by rw [decide_eq_true rfl, Bool.or_true]), fun d hd f => a d hd (by rw [f]; rfl)⟩
        · rintro ⟨a, b⟩ d hd f
          rw [Bool.or_eq_true, decide_eq_true_eq] at f
          rcases f with f | f
          · exact b d hd f
          · rw [f]; exact a
      have c3 : ((so i ||| ((1 : Int64) <<< ((nI i).toInt64 &&& 63))) &&& t.2) = 0 ↔ qp_bad D K (qp_W K A B) i = false := by
        rw [qb_an m6 m3]
        unfold qp_bad
        rw [Bool.or_eq_false_iff, qe_f]
        constructor
        · intro a
          refine ⟨a i hi (by rw [decide_eq_true rfl, Bool.or_true]), fun d hd => ?_⟩
          cases f : qf_F D i d with
          | false => rfl
          | true => rw [a d hd (by rw [f]; rfl)]; rfl
        · rintro ⟨a, b⟩ d hd f
          rw [Bool.or_eq_true, decide_eq_true_eq] at f
          rcases f with f | f
          · have t := b d hd
            rw [f, Bool.true_and] at t
            exact t
          · rw [f]; exact a
      refine br_f (qn_ge hi) ⟨qn_in hi, nm_e ?_⟩
      rw [qn_cl hi, x.1, hS i hi]
      refine ek_if c1 (fun z1 => ek_if c3 (fun z3 => ⟨qn_in hi, br_c (fun k => ⟨qn_in hi, ek_if (qp_siI G hi) (fun w => key 0 ?_) (fun w => key 1 ?_)⟩) (fun k => key 1 ?_)⟩) (fun z3 => key 3 ?_)) (fun z1 => key 2 ?_)
      · have k' : K i = 0 := (qn_eq (b := 0) (by omega) (by omega)).mp k
        unfold qp_st
        rw [z1, z3, if_neg (by decide), if_neg (by decide), if_pos ⟨k', w⟩]; rfl
      · unfold qp_st
        rw [z1, z3, if_neg (by decide), if_neg (by decide), if_neg (fun y => w y.2)]; rfl
      · unfold qp_st
        rw [z1, z3, if_neg (by decide), if_neg (by decide), if_neg (fun y => k (by rw [y.1]; rfl))]; rfl
      · unfold qp_st
        rw [z1, if_neg (by decide), if_pos (Bool.not_eq_false _ ▸ z3)]; rfl
      · unfold qp_st
        rw [if_pos (Bool.not_eq_false _ ▸ z1)]; rfl
  · intro n i t hi hI IH
    refine br_f (qn_ge hi) ⟨qn_in hi, ?_⟩
    rw [qn_cl hi]
    refine qh_XB (hF i hi) hi (fun f => ?_) (fun f => nm_e ?_)
    · exact qj_36 kd nm op fi se th ow sh dr so st vl dp X G hO (qp_Wle K A B) hi hI.2 (fun y hy => IH (t.1, y) ⟨qj_i (P := fun d => qf_F D d d) hI.1 f, hy⟩)
    · exact qj_36 kd nm op fi se th ow sh dr so st vl dp X G hO (qp_Wle K A B) hi hI.2 (fun y hy => IH (t.1 ||| ((1 : Int64) <<< ((nI i).toInt64 &&& 63)), y) ⟨qj_t (P := fun d => qf_F D d d) hi hI.1 f, hy⟩)
