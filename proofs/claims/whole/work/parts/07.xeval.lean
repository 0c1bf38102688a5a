/-! X: totalOf, deepestOf, evaluate, evaluateAll, settle -/
theorem qt_X {post : Int32 → Prop} (kd nm op fi se th ow sh : Nat → Int32) (dr so : Nat → Int64) (st vl dp : Nat → Int32) {x : Int64} {P : Nat → Bool} (m : qb_m x P) (h : post (qs_m P vl 36)) : wpX_totalOf post (kd, nm, op, fi, se, th, ow, sh, dr, so, st, vl, dp) x := by
  refine loop_0 (fun n i (s : Int32) => wX_totalOf_5 post x kd nm op fi se th ow sh dr so st vl dp n s (nI i)) (fun i s => s = qs_m P vl i) 36 0 rfl ?_ ?_
  · intro n s hI
    refine br_t qn_le ?_
    rw [hI]; exact h
  · intro n i s hi hI IH
    refine br_f (qn_ge hi) (qh_XB m hi (fun f => nm_r (nI_1 i) (IH s ?_)) (fun t => ⟨qn_in hi, nm_e (nm_r (nI_1 i) (IH _ ?_))⟩))
    · show s = if P i = true then _ else _
      rw [if_neg (by rw [f]; decide)]; exact hI
    · show s + vl (nI i).toNatClampNeg = if P i = true then _ else _
      rw [if_pos t, qn_cl hi, hI]
theorem qd_X {post : Int32 → Prop} (kd nm op fi se th ow sh : Nat → Int32) (dr so : Nat → Int64) (st vl dp : Nat → Int32) {x : Int64} {P : Nat → Bool} (m : qb_m x P) (h : post (qd_m P dp 36)) : wpX_deepestOf post (kd, nm, op, fi, se, th, ow, sh, dr, so, st, vl, dp) x := by
  refine loop_0 (fun n i (s : Int32) => wX_deepestOf_5 post x kd nm op fi se th ow sh dr so st vl dp n s (nI i)) (fun i s => s = qd_m P dp i) 36 0 rfl ?_ ?_
  · intro n s hI
    refine br_t qn_le ?_
    rw [hI]; exact h
  · intro n i s hi hI IH
    refine br_f (qn_ge hi) (qh_XB m hi (fun f => nm_r (nI_1 i) (IH s ?_)) (fun t => ⟨qn_in hi, ?_⟩))
    · show s = if P i = true then _ else _
      rw [if_neg (by rw [f]; decide)]; exact hI
    · rw [qn_cl hi]
      refine br_c (fun c => nm_r (nI_1 i) (IH s ?_)) (fun c => ⟨qn_in hi, nm_e (nm_r (nI_1 i) (IH _ ?_))⟩)
      · show s = if P i = true then (if dp i ≤ qd_m P dp i then _ else _) else _
        rw [if_pos t, ← hI, if_pos c]
      · show dp i = if P i = true then (if dp i ≤ qd_m P dp i then _ else _) else _
        rw [if_pos t, ← hI, if_neg c]
theorem qv_X {post : Int32 → Prop} (kd nm op fi se th ow sh : Nat → Int32) (dr so : Nat → Int64) (st vl dp : Nat → Int32) {K A B C : Nat → Nat} (X : qx_C kd fi se th K A B C) (G : qp_G K A B C) (hS : ∀ j, j < 36 → sh j = qp_si A (qp_W K A B) j) {c : Nat} (hc : c < 36) (hD : qb_m (dr c) (qp_D K A B C (qp_W K A B) c)) (h : post (qp_ev K A B C (qp_W K A B) nm op vl c)) : wpX_evaluate post (kd, nm, op, fi, se, th, ow, sh, dr, so, st, vl, dp) (nI c) := by
  have g := G c hc
  have x := X c hc
  have e0 : kd (nI c).toNatClampNeg = nI (K c) := by rw [qn_cl hc, x.1]
  unfold qp_ev at h
  refine ⟨qn_in hc, ?_⟩
  rw [e0, qn_cl hc, hS c hc]
  refine ek_if (qp_siI G hc) (fun w => ⟨qn_in hc, nm_e ?_⟩) (fun w => ⟨qn_in hc, ?_⟩)
  · rw [if_neg (by omega)] at h
    rw [x.2.1, x.2.2.1, x.2.2.2, qn_cl g.2.1, qn_cl g.2.2.1, qn_cl g.2.2.2.1]
    refine br_c (fun z => ?_) (fun z => br_c (fun y => ?_) (fun y => br_c (fun k => ?_) (fun k1 => br_c (fun k => ?_) (fun k2 => br_c (fun k => ?_) (fun k3 => br_c (fun k => ?_) (fun _ => trivial))))))
    · have z2 : K c < 1 := (qn_lt (b := 1) (by omega) (by omega)).mp z
      rw [if_neg (by omega), if_neg (by omega), if_neg (by omega), if_neg (by omega)] at h
      exact h
    · have z2 : 4 < K c := (qn_lt (a := 4) (by omega) (by omega)).mp y
      rw [if_neg (by omega), if_neg (by omega), if_neg (by omega), if_neg (by omega)] at h
      exact h
    · have k' : K c = 1 := (qn_eq (b := 1) (by omega) (by omega)).mp k
      rw [if_pos k'] at h
      exact ⟨qn_in hc, h⟩
    · have k' : K c = 2 := (qn_eq (b := 2) (by omega) (by omega)).mp k
      rw [if_neg (by omega), if_pos k'] at h
      exact ⟨qn_in hc, qn_in hc, qn_in g.2.1, qn_in hc, qn_in g.2.2.1, qk_X h⟩
    · have k' : K c = 3 := (qn_eq (b := 3) (by omega) (by omega)).mp k
      rw [if_neg (by omega), if_neg (by omega), if_neg (by omega), if_pos k'] at h
      refine ⟨qn_in hc, qt_X kd nm op fi se th ow sh dr so st vl dp hD ?_⟩
      rw [qs_c (Q := fun d => qp_ins d (A c) (B c)) (V' := vl) (fun i _ => qp_D_3 w k' i) (fun _ _ _ => rfl)]
      exact h
    · have k' : K c = 4 := (qn_eq (b := 4) (by omega) (by omega)).mp k
      rw [if_neg (by omega), if_neg (by omega), if_pos k'] at h
      refine ⟨qn_in hc, qn_in g.2.1, br_c (fun y => ⟨qn_in hc, qn_in g.2.2.2.1, ?_⟩) (fun y => ⟨qn_in hc, qn_in g.2.2.1, ?_⟩)⟩
      · rw [if_pos y] at h; exact h
      · rw [if_neg y] at h; exact h
  · rw [if_pos w] at h
    rw [qp_si1 w, qn_cl (qp_shL G hc w)]
    exact ⟨qn_in (qp_shL G hc w), h⟩
/-- what evaluateAll keeps in pass p ahead of the cell i -/
def qe_I (D : Nat → Nat → Bool) (E : (Nat → Int32) → Nat → Int32) (S : Nat → Nat) (p i : Nat) (t : Int64 × (Nat → Int32) × (Nat → Int32)) : Prop :=
  ∃ N : Nat → Bool, qb_m t.1 N ∧ qx_I D p i N ∧ qx_V D E N t.2.1 ∧ qx_V D (qp_P D) N t.2.2 ∧ ∀ c, c < 36 → S c ≠ 1 → t.2.1 c = 0
theorem qe_X {post : SX → Prop} (kd nm op fi se th ow sh : Nat → Int32) (dr so : Nat → Int64) (st vl dp : Nat → Int32) {K A B C : Nat → Nat} (X : qx_C kd fi se th K A B C) (G : qp_G K A B C) (hS : ∀ j, j < 36 → sh j = qp_si A (qp_W K A B) j) (hD : ∀ j, j < 36 → qb_m (dr j) (qp_D K A B C (qp_W K A B) j)) (hT : ∀ j, j < 36 → st j = nI (qp_st (qp_D K A B C (qp_W K A B)) K (qp_W K A B) j))
    (h : ∀ vl' dp' : Nat → Int32, (∀ j, j < 36 → vl' j = qv_V (qp_E (qp_D K A B C (qp_W K A B)) K A B C (qp_W K A B) nm op) j) → (∀ j, j < 36 → qf_c (qp_D K A B C (qp_W K A B)) j = false → dp' j = qv_V (qp_P (qp_D K A B C (qp_W K A B))) j) → post (kd, nm, op, fi, se, th, ow, sh, dr, so, st, vl', dp')) : wpX_evaluateAll post (kd, nm, op, fi, se, th, ow, sh, dr, so, st, vl, dp) := by
  have EL := qp_EL G nm op
  refine loop_0 (fun n i (t : (Nat → Int32) × (Nat → Int32)) => wX_evaluateAll_2 post n (nI i) kd nm op fi se th ow sh dr so st t.1 t.2) (fun i t => ∀ j, j < i → t.1 j = 0) 36 (vl, dp) (fun j hj => absurd hj (Nat.not_lt_zero j)) ?_ ?_
  · intro n t hZ
    refine br_t qn_le ?_
    refine loop_0 (fun n p (t : Int64 × (Nat → Int32) × (Nat → Int32)) => wX_evaluateAll_32 post n t.1 (nI p) kd nm op fi se th ow sh dr so st t.2.1 t.2.2) (fun p t => qe_I (qp_D K A B C (qp_W K A B)) (qp_E (qp_D K A B C (qp_W K A B)) K A B C (qp_W K A B) nm op) (qp_st (qp_D K A B C (qp_W K A B)) K (qp_W K A B)) p 0 t) 36 (0, t.1, t.2) ?_ ?_ ?_
    · exact ⟨fun _ => false, qb_m0, qx_0, qx_V0, qx_V0, fun c hc _ => hZ c hc⟩
    · intro n t hI
      obtain ⟨N, hN, hx, hv, hd, hz⟩ := hI
      refine br_t qn_le (h t.2.1 t.2.2 (fun j hj => ?_) (fun j hj hc => qx_e hx hd (Nat.le_refl 36) hj hc))
      cases hc : qf_c (qp_D K A B C (qp_W K A B)) j with
      | false => exact qx_e hx hv (Nat.le_refl 36) hj hc
      | true =>
        have s2 := qp_st2 (K := K) (W := qp_W K A B) |>.mpr hc
        rw [hz j hj (by omega)]
        show _ = qp_E (qp_D K A B C (qp_W K A B)) K A B C (qp_W K A B) nm op _ j
        unfold qp_E
        rw [if_neg (by omega)]
    · intro n p t hp hI IH
      refine br_f (qn_ge hp) ?_
      refine loop_0 (fun n2 i (t : Int64 × (Nat → Int32) × (Nat → Int32)) => wX_evaluateAll_41 post (wX_evaluateAll_32 post n) (nI p) n2 t.1 (nI i) kd nm op fi se th ow sh dr so st t.2.1 t.2.2) (fun i t => qe_I (qp_D K A B C (qp_W K A B)) (qp_E (qp_D K A B C (qp_W K A B)) K A B C (qp_W K A B) nm op) (qp_st (qp_D K A B C (qp_W K A B)) K (qp_W K A B)) p i t) 36 t hI ?_ ?_
      · intro n2 t2 hI2
        obtain ⟨N, hN, hx, hv, hd, hz⟩ := hI2
        exact br_t qn_le (nm_r (nI_1 p) (IH t2 ⟨N, hN, qx_p hx, hv, hd, hz⟩))
      · intro n2 i t2 hi hI2 IH2
        obtain ⟨N, hN, hx, hv, hd, hz⟩ := hI2
        have sle := qp_st_le (qp_D K A B C (qp_W K A B)) K (qp_W K A B) i
        refine br_f (qn_ge hi) (qh_XB hN hi (fun f => ⟨qn_in hi, ?_⟩) (fun tt => nm_r (nI_1 i) (IH2 t2 ⟨N, hN, qx_done hx tt, hv, hd, hz⟩)))
        rw [qn_cl hi]
        refine ek_if (qb_sub (hD i hi) hN) (fun sb => ⟨qn_in hi, ?_⟩) (fun sb => nm_r (nI_1 i) (IH2 t2 ⟨N, hN, qx_wait hx sb, hv, hd, hz⟩))
        have H99 : ∀ vl2 : Nat → Int32, qx_V (qp_D K A B C (qp_W K A B)) (qp_E (qp_D K A B C (qp_W K A B)) K A B C (qp_W K A B) nm op) (fun k => N k || decide (k = i)) vl2 → (∀ c, c < 36 → qp_st (qp_D K A B C (qp_W K A B)) K (qp_W K A B) c ≠ 1 → vl2 c = 0) → wX_evaluateAll_99 post (wX_evaluateAll_32 post n) (wX_evaluateAll_41 post (wX_evaluateAll_32 post n) (nI p) n2) t2.1 (nI p) (nI i) kd nm op fi se th ow sh dr so st vl2 t2.2.2 := by
          intro vl2 hv2 hz2
          refine ⟨qn_in hi, ?_⟩
          rw [qn_cl hi]
          refine qd_X kd nm op fi se th ow sh dr so st vl2 t2.2.2 (hD i hi) ⟨qn_in hi, nm_e (nm_e (nm_r (nI_1 i) (IH2 (t2.1 ||| ((1 : Int64) <<< ((nI i).toInt64 &&& 63)), vl2, upd t2.2.2 i (1 + qd_m (qp_D K A B C (qp_W K A B) i) t2.2.2 36)) ⟨_, qb_ms hi hN, qx_put hx sb, hv2, ?_, hz2⟩)))⟩
          exact qx_Vput (qp_PL _) hd hi sb f (fun _ => pk_us) (fun c _ ne => pk_un ne)
        rw [hT i hi]
        refine br_c (fun s1 => ?_) (fun s1 => H99 t2.2.1 ?_ hz)
        · have s1' := (qn_eq (b := 1) (by omega) (by omega)).mp s1
          refine qv_X kd nm op fi se th ow sh dr so st t2.2.1 t2.2.2 X G hS hi (hD i hi) ⟨qn_in hi, nm_e (H99 _ ?_ ?_)⟩
          · refine qx_Vput EL hv hi sb f (fun _ => ?_) (fun c _ ne => pk_un ne)
            rw [pk_us]
            unfold qp_E
            rw [if_pos s1']
          · intro c hc hs
            rw [pk_un (fun e => hs (by rw [e]; exact s1'))]
            exact hz c hc hs
        · have s1' : ¬ qp_st (qp_D K A B C (qp_W K A B)) K (qp_W K A B) i = 1 := fun e => s1 (by rw [e]; rfl)
          refine qx_Vput EL hv hi sb f (fun _ => ?_) (fun c _ ne => rfl)
          rw [hz i hi s1']
          unfold qp_E
          rw [if_neg s1']
  · intro n i t hi hI IH
    refine br_f (qn_ge hi) ⟨qn_in hi, nm_e ⟨qn_in hi, nm_e (nm_r (nI_1 i) (IH (upd t.1 (nI i).toNatClampNeg 0, upd t.2 (nI i).toNatClampNeg 0) ?_))⟩⟩
    intro j hj
    rw [qn_cl hi]
    show upd t.1 i 0 j = 0
    by_cases e : j = i
    · subst e; rw [pk_us]
    · rw [pk_un e]; exact hI j (by omega)
/-- what X has worked out of its contents -/
def qx_Z (K A B C : Nat → Nat) (nm op ow sh : Nat → Int32) (so : Nat → Int64) (st vl dp : Nat → Int32) : Prop :=
  (∀ j, j < 36 → ow j = qp_oi (qp_W K A B j)) ∧ (∀ j, j < 36 → sh j = qp_si A (qp_W K A B) j) ∧ (∀ j, j < 36 → qb_m (so j) (qf_F (qp_D K A B C (qp_W K A B)) j)) ∧ (∀ j, j < 36 → st j = nI (qp_st (qp_D K A B C (qp_W K A B)) K (qp_W K A B) j)) ∧ (∀ j, j < 36 → vl j = qv_V (qp_E (qp_D K A B C (qp_W K A B)) K A B C (qp_W K A B) nm op) j) ∧ (∀ j, j < 36 → qf_c (qp_D K A B C (qp_W K A B)) j = false → dp j = qv_V (qp_P (qp_D K A B C (qp_W K A B))) j)
theorem qx_S {post : SX → Prop} (kd nm op fi se th ow sh : Nat → Int32) (dr so : Nat → Int64) (st vl dp : Nat → Int32) {K A B C : Nat → Nat} (X : qx_C kd fi se th K A B C) (G : qp_G K A B C)
    (h : ∀ (ow' sh' : Nat → Int32) (dr' so' : Nat → Int64) (st' vl' dp' : Nat → Int32), qx_Z K A B C nm op ow' sh' so' st' vl' dp' → post (kd, nm, op, fi, se, th, ow', sh', dr', so', st', vl', dp')) : wpX_settle post (kd, nm, op, fi, se, th, ow, sh, dr, so, st, vl, dp) := by
  unfold wpX_settle
  dsimp only
  refine qs_X kd nm op fi se th ow sh dr so st vl dp X G (fun ow' sh' h1 h2 => ?_)
  refine ql_X kd nm op fi se th ow' sh' dr so st vl dp X G h2 (fun dr' h3 => ?_)
  refine qc_X kd nm op fi se th ow' sh' dr' so st vl dp h3 (fun so' h4 => ?_)
  refine qj_X kd nm op fi se th ow' sh' dr' so' st vl dp X G h1 h2 h4 (fun st' h5 => ?_)
  refine qe_X kd nm op fi se th ow' sh' dr' so' st' vl dp X G h2 h3 h5 (fun vl' dp' h6 h7 => ?_)
  exact h ow' sh' dr' so' st' vl' dp' ⟨h1, h2, h4, h5, h6, h7⟩
