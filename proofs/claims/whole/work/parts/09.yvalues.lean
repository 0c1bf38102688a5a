/-! Y: reckon, values, deeper, depth's loops; both sides' loops of the questions -/
theorem qk_R {post : Int32 → Prop} (ks os oa ob oc fr : Nat → Int32) (di fa : Nat → Int64) (wk nx : Nat → Int32) {nm op : Nat → Int32} {K A B C : Nat → Nat} (Y : qy_C ks os oa ob oc K A B C nm op) (G : qp_G K A B C) (hO : ∀ j, j < 36 → fr j = qp_oi (qp_W K A B j)) {c : Nat} (hc : c < 36) (hv : qp_W K A B c ≠ 0 ∨ K c = 1 ∨ K c = 2 ∨ K c = 3 ∨ K c = 4) (h : post (qp_ev K A B C (qp_W K A B) nm op wk c)) : wpY_reckon post (ks, os, oa, ob, oc, fr, di, fa, wk, nx) (nI c) := by
  have g := G c hc
  have y := Y c hc
  unfold qp_ev at h
  refine ⟨qn_in hc, ?_⟩
  rw [qn_cl hc, hO c hc, y.1, y.2.2.1, y.2.2.2.1]
  refine ek_if (qp_oiL (qp_Wle K A B c)) (fun w => ⟨qn_in hc, br_c (fun k => ⟨qn_in hc, ?_⟩) (fun k1 => ⟨qn_in hc, br_c (fun k => ?_) (fun k2 => ⟨qn_in hc, br_c (fun k => ?_) (fun k4 => ?_)⟩)⟩)⟩) (fun w => ?_)
  · have k' : K c = 1 := (qn_eq (b := 1) (by omega) (by omega)).mp k
    rw [if_neg (by omega), if_pos k'] at h
    rw [y.2.1, if_pos k']
    exact h
  · have k' : K c = 2 := (qn_eq (b := 2) (by omega) (by omega)).mp k
    rw [if_neg (by omega), if_neg (by omega), if_pos k'] at h
    rw [qy_a Y hc (by omega), qn_cl g.2.1, qn_cl g.2.2.1, y.2.2.2.2 k']
    exact ⟨qn_in hc, qn_in hc, qn_in g.2.1, qn_in hc, qn_in g.2.2.1, qk_Y h⟩
  · have k' : K c = 4 := (qn_eq (b := 4) (by omega) (by omega)).mp k
    rw [if_neg (by omega), if_neg (by omega), if_neg (by omega), if_pos k'] at h
    rw [qy_a Y hc (by omega), qn_cl g.2.1, qn_cl g.2.2.1, qn_cl g.2.2.2.1]
    refine ⟨qn_in hc, qn_in g.2.1, br_c (fun y => ⟨qn_in hc, qn_in g.2.2.2.1, ?_⟩) (fun y => ⟨qn_in hc, qn_in g.2.2.1, ?_⟩)⟩
    · rw [if_pos y] at h; exact h
    · rw [if_neg y] at h; exact h
  · have k' : K c = 3 := by
      rcases hv with z | z | z | z | z
      · exact absurd w z
      · exact absurd (by rw [z]; rfl) k1
      · exact absurd (by rw [z]; rfl) k2
      · exact z
      · exact absurd (by rw [z]; rfl) k4
    rw [if_neg (by omega), if_neg (by omega), if_neg (by omega), if_neg (by omega), if_pos k'] at h
    refine loop_0 (fun n i (s : Int32) => wY_reckon_134 post (nI c) ks os oa ob oc fr di fa wk nx n s (nI i)) (fun i s => s = qs_m (fun d => qp_ins d (A c) (B c)) wk i) 36 0 rfl ?_ ?_
    · intro n s hI
      refine br_t qn_le ?_
      rw [hI]; exact h
    · intro n i s hi hI IH
      refine br_f (qn_ge hi) ⟨qn_in hc, qn_in hc, ?_⟩
      rw [qn_cl hc, qy_a Y hc (by omega), y.2.2.1]
      refine qi_insB hi g.2.1 g.2.2.1 (fun f => nm_r (nI_1 i) (IH s ?_)) (fun t => ⟨qn_in hi, nm_e (nm_r (nI_1 i) (IH _ ?_))⟩)
      · show s = if qp_ins i (A c) (B c) = true then _ else _
        rw [if_neg (by rw [f]; decide)]; exact hI
      · show s + wk (nI i).toNatClampNeg = if qp_ins i (A c) (B c) = true then _ else _
        rw [if_pos t, qn_cl hi, hI]
  · rw [if_pos w] at h
    refine qh_S ks os oa ob oc fr di fa wk nx Y G hO hc ?_
    rw [qp_si1 w, qn_cl (qp_shL G hc w)]
    exact ⟨qn_in (qp_shL G hc w), h⟩
/-- the passes of values: pass p, the cells below i through -/
def qv_I (D : Nat → Nat → Bool) (E : (Nat → Int32) → Nat → Int32) (S : Nat → Nat) (p i : Nat) (x : Int32) (V : Nat → Int32) : Prop :=
  qy_I D E p i V ∧ (∀ c, c < 36 → S c ≠ 1 → V c = 0) ∧ (x = 0 → ∀ c, c < i → V c = E V c)
theorem qn_40 {i : Nat} (h : i < 40) : ¬ (40 : Int32) ≤ nI i := nI_ge (b := 40) h (by decide)
theorem qv_Y {post : SY → Prop} (ks os oa ob oc fr : Nat → Int32) (di fa : Nat → Int64) (wk nx : Nat → Int32) {nm op : Nat → Int32} {K A B C : Nat → Nat} (Y : qy_C ks os oa ob oc K A B C nm op) (G : qp_G K A B C)
    (h : ∀ (fr' : Nat → Int32) (di' fa' : Nat → Int64) (wk' nx' : Nat → Int32), (∀ j, j < 36 → wk' j = qv_V (qp_E (qp_D K A B C (qp_W K A B)) K A B C (qp_W K A B) nm op) j) → post (ks, os, oa, ob, oc, fr', di', fa', wk', nx')) : wpY_values post (ks, os, oa, ob, oc, fr, di, fa, wk, nx) := by
  have EL := qp_EL G nm op
  unfold wpY_values
  dsimp only
  refine qt_Y ks os oa ob oc fr di fa wk nx Y G (fun fr' di' fa' hO hD hF => ?_)
  generalize hDD : qp_D K A B C (qp_W K A B) = D at *
  generalize hEE : qp_E D K A B C (qp_W K A B) nm op = E at *
  have E1 : ∀ (V : Nat → Int32) (c : Nat), qp_st D K (qp_W K A B) c = 1 → E V c = qp_ev K A B C (qp_W K A B) nm op V c := by
    intro V c hs
    rw [← hEE]
    unfold qp_E
    rw [if_pos hs]
  have E0 : ∀ (V : Nat → Int32) (c : Nat), ¬ qp_st D K (qp_W K A B) c = 1 → E V c = 0 := by
    intro V c hs
    rw [← hEE]
    unfold qp_E
    rw [if_neg hs]
  have V0 : ∀ c, qf_c D c = true → qv_V E c = 0 := by
    intro c hc
    have s2 := qp_st2 (K := K) (W := qp_W K A B) |>.mpr hc
    show E _ c = 0
    exact E0 _ c (by omega)
  refine loop_0 (fun n i (t : (Nat → Int32) × (Nat → Int32)) => wY_values_6 post n (nI i) ks os oa ob oc fr' di' fa' t.1 t.2) (fun i t => ∀ j, j < i → t.1 j = 0 ∧ t.2 j = nI (qp_st D K (qp_W K A B) j)) 36 (wk, nx) (fun j hj => absurd hj (Nat.not_lt_zero j)) ?_ ?_
  · intro n t hI
    refine br_t qn_le ?_
    refine loop_0 (fun n p (s : Int32 × (Nat → Int32)) => wY_values_40 post n s.1 (nI p) ks os oa ob oc fr' di' fa' s.2 t.2) (fun p s => qy_I D E p 0 s.2 ∧ (∀ c, c < 36 → qp_st D K (qp_W K A B) c ≠ 1 → s.2 c = 0) ∧ (s.1 = 0 → ∀ c, c < 36 → s.2 c = E s.2 c)) 40 (1, t.1) ?_ ?_ ?_
    · exact ⟨qy_0, fun c hc _ => (hI c hc).1, fun z => absurd (show (1 : Int32) = 0 from z) (by decide)⟩
    · intro n s hS
      refine br_t (by decide) (h fr' di' fa' s.2 t.2 (fun j hj => ?_))
      cases hc : qf_c D j with
      | false => exact qy_e hS.1 (by omega) hj hc
      | true =>
        have s2 := qp_st2 (K := K) (W := qp_W K A B) |>.mpr hc
        rw [hS.2.1 j hj (by omega), V0 j hc]
    · intro n p s hp hS IH
      refine br_f (qn_40 hp) (br_c (fun z => ?_) (fun z => ?_))
      · refine h fr' di' fa' s.2 t.2 (fun j hj => ?_)
        cases hc : qf_c D j with
        | false => exact qv_un EL (fun c h36 _ => hS.2.2 z c h36) (qf_r D j) j hj hc (Nat.le_refl _)
        | true =>
          have s2 := qp_st2 (K := K) (W := qp_W K A B) |>.mpr hc
          rw [hS.2.1 j hj (by omega), V0 j hc]
      · refine loop_0 (fun n2 i (s : Int32 × (Nat → Int32)) => wY_values_54 post (wY_values_40 post n) (nI p) n2 s.1 (nI i) ks os oa ob oc fr' di' fa' s.2 t.2) (fun i s => qv_I D E (qp_st D K (qp_W K A B)) p i s.1 s.2) 36 (0, s.2) ⟨hS.1, hS.2.1, fun _ c hc => absurd hc (Nat.not_lt_zero c)⟩ ?_ ?_
        · intro n2 s2 hI2
          exact br_t qn_le (nm_r (nI_1 p) (IH s2 ⟨qy_p hI2.1, hI2.2.1, hI2.2.2⟩))
        · intro n2 i s2 hi hI2 IH2
          have gK := (G i hi).1
          have sle := qp_st_le D K (qp_W K A B) i
          have H79 : ∀ z : Int32, z = E s2.2 i → wY_values_79 post (wY_values_40 post n) (wY_values_54 post (wY_values_40 post n) (nI p) n2) s2.1 (nI p) (nI i) z ks os oa ob oc fr' di' fa' s2.2 t.2 := by
            intro z hz
            have nw : ∀ y : Int32, (y = 0 → s2.1 = 0 ∧ z = s2.2 i) → qv_I D E (qp_st D K (qp_W K A B)) p (i + 1) y (upd s2.2 i z) := by
              intro y hy
              refine ⟨qy_s EL hI2.1 hi (fun _ => hz), fun c hc hs => ?_, fun y0 c hc => ?_⟩
              · by_cases e : c = i
                · subst e; rw [pk_us, hz]; exact E0 _ c hs
                · rw [pk_un e]; exact hI2.2.1 c hc hs
              · obtain ⟨y1, y2⟩ := hy y0
                have same : ∀ d, upd s2.2 i z d = s2.2 d := by
                  intro d
                  by_cases e : d = i
                  · subst e; rw [pk_us]; exact y2
                  · rw [pk_un e]
                rw [same c, EL (upd s2.2 i z) s2.2 c (by omega) (fun d _ _ => same d)]
                by_cases e : c = i
                · subst e; rw [← y2]; exact hz
                · exact hI2.2.2 y1 c (by omega)
            refine ⟨qn_in hi, ?_⟩
            rw [qn_cl hi]
            exact br_c (fun e => ⟨qn_in hi, nm_e (nm_r (nI_1 i) (IH2 (s2.1, upd s2.2 i z) (nw s2.1 (fun q => ⟨q, e⟩))))⟩) (fun e => ⟨qn_in hi, nm_e (nm_r (nI_1 i) (IH2 (1, upd s2.2 i z) (nw 1 (fun q => absurd q (by decide)))))⟩)
          refine br_f (qn_ge hi) ⟨qn_in hi, ?_⟩
          rw [qn_cl hi, (hI i hi).2]
          refine br_c (fun s1 => ?_) (fun s1 => H79 0 ?_)
          · have s1' : qp_st D K (qp_W K A B) i = 1 := (qn_eq (b := 1) (by omega) (by omega)).mp s1
            exact qk_R ks os oa ob oc fr' di' fa' s2.2 t.2 Y G hO hi (qp_st1 gK s1') (H79 _ (E1 _ i s1').symm)
          · exact (E0 _ i (fun e => s1 (by rw [e]; rfl))).symm
  · intro n i t hi hI IH
    refine br_f (qn_ge hi) ⟨qn_in hi, nm_e ?_⟩
    refine qf_Y ks os oa ob oc fr' di' fa' (upd t.1 (nI i).toNatClampNeg 0) t.2 Y G hO hF hi ⟨qn_in hi, nm_e (nm_r (nI_1 i) (IH (upd t.1 (nI i).toNatClampNeg 0, upd t.2 (nI i).toNatClampNeg (nI (qp_st D K (qp_W K A B) i))) ?_))⟩
    intro j hj
    rw [qn_cl hi]
    show upd t.1 i 0 j = 0 ∧ upd t.2 i _ j = _
    by_cases e : j = i
    · subst e; rw [pk_us, pk_us]; exact ⟨rfl, rfl⟩
    · rw [pk_un e, pk_un e]; exact hI j (by omega)
theorem qd_Y {post : Int32 → Prop} (ks os oa ob oc fr : Nat → Int32) (di fa : Nat → Int64) (wk nx : Nat → Int32) {P : Nat → Bool} {c : Nat} (hc : c < 36) (m : qb_m (di c) P) (h : post (1 + qd_m P wk 36)) : wpY_deeper post (ks, os, oa, ob, oc, fr, di, fa, wk, nx) (nI c) := by
  refine loop_0 (fun n i (s : Int32) => wY_deeper_4 post (nI c) ks os oa ob oc fr di fa wk nx n s (nI i)) (fun i s => s = qd_m P wk i) 36 0 rfl ?_ ?_
  · intro n s hI
    refine br_t qn_le ?_
    rw [hI, Int32.add_comm]; exact h
  · intro n i s hi hI IH
    refine br_f (qn_ge hi) ⟨qn_in hc, ?_⟩
    rw [qn_cl hc]
    refine qh_YB m hi (fun f => nm_r (nI_1 i) (IH s ?_)) (fun t => ⟨qn_in hi, ?_⟩)
    · show s = if P i = true then _ else _
      rw [if_neg (by rw [f]; decide)]; exact hI
    · rw [qn_cl hi]
      refine br_c (fun c => nm_r (nI_1 i) (IH s ?_)) (fun c => ⟨qn_in hi, nm_e (nm_r (nI_1 i) (IH _ ?_))⟩)
      · show s = if P i = true then (if wk i ≤ qd_m P wk i then _ else _) else _
        rw [if_pos t, ← hI, if_pos c]
      · show wk i = if P i = true then (if wk i ≤ qd_m P wk i then _ else _) else _
        rw [if_pos t, ← hI, if_neg c]
theorem qD_Y {post : Int32 → SY → Prop} (ks os oa ob oc fr : Nat → Int32) (di fa : Nat → Int64) (wk nx : Nat → Int32) {D : Nat → Nat → Bool} (hD : ∀ j, j < 36 → qb_m (di j) (D j)) (hF : ∀ j, j < 36 → qb_m (fa j) (qf_F D j)) {c : Nat} (hc : c < 36) (hn : qf_c D c = false)
    (h : ∀ wk' : Nat → Int32, post (qv_V (qp_P D) c) (ks, os, oa, ob, oc, fr, di, fa, wk', nx)) : ∃ n28 : Nat, wY_depth_28 post (nI c) n28 0 ks os oa ob oc fr di fa wk nx := by
  refine loop_0 (fun n i (w : Nat → Int32) => wY_depth_28 post (nI c) n (nI i) ks os oa ob oc fr di fa w nx) (fun _ _ => True) 36 wk trivial ?_ ?_
  · intro n w _
    refine br_t qn_le ?_
    refine loop_0 (fun n p (w : Nat → Int32) => wY_depth_49 post (nI c) n (nI p) ks os oa ob oc fr di fa w nx) (fun p w => qy_I D (qp_P D) p 0 w) 36 w qy_0 ?_ ?_
    · intro n w hI
      refine br_t qn_le ⟨qn_in hc, ?_⟩
      rw [qn_cl hc, qy_e hI (Nat.le_refl _) hc hn]
      exact h w
    · intro n p w hp hI IH
      refine br_f (qn_ge hp) ?_
      refine loop_0 (fun n2 i (w : Nat → Int32) => wY_depth_57 post (wY_depth_49 post (nI c) n) (nI c) (nI p) n2 (nI i) ks os oa ob oc fr di fa w nx) (fun i w => qy_I D (qp_P D) p i w) 36 w hI ?_ ?_
      · intro n2 w2 hI2
        exact br_t qn_le (nm_r (nI_1 p) (IH w2 (qy_p hI2)))
      · intro n2 i w2 hi hI2 IH2
        refine br_f (qn_ge hi) ⟨qn_in hi, ?_⟩
        rw [qn_cl hi]
        refine qh_YB (hF i hi) hi (fun f => qd_Y ks os oa ob oc fr di fa w2 nx hi (hD i hi) ⟨qn_in hi, nm_e (nm_r (nI_1 i) (IH2 _ ?_))⟩) (fun f => ⟨qn_in hi, nm_e (nm_r (nI_1 i) (IH2 _ ?_))⟩)
        · exact qy_s (qp_PL D) hI2 hi (fun _ => rfl)
        · refine qy_s (qp_PL D) hI2 hi (fun z => ?_)
          have z2 := (qf_nc.mp z).1
          rw [f] at z2
          cases z2
  · intro n i w hi _ IH
    exact br_f (qn_ge hi) ⟨qn_in hi, nm_e (nm_r (nI_1 i) (IH _ trivial))⟩
/-- readers -/
theorem qR_X {post : Int64 → Prop} (kd nm op fi se th ow sh : Nat → Int32) (dr so : Nat → Int64) (st vl dp : Nat → Int32) {F : Nat → Nat → Bool} (hF : ∀ j, j < 36 → qb_m (so j) (F j)) {c : Nat} (hc : c < 36) (h : ∀ x, qb_m x (fun d => F d c) → post x) : ∃ n16 : Nat, wX_readers_16 post (nI c) kd nm op fi se th ow sh dr so st vl dp n16 0 0 := by
  refine loop_0 (fun n i (x : Int64) => wX_readers_16 post (nI c) kd nm op fi se th ow sh dr so st vl dp n x (nI i)) (fun i x => qb_m x (fun d => decide (d < i) && F d c)) 36 0 (qb_mc qb_m0 (fun _ _ => rfl)) ?_ ?_
  · intro n x hx
    exact br_t qn_le (h x (qb_mc hx (fun e he => by rw [decide_eq_true he, Bool.true_and])))
  · intro n i x hi hx IH
    refine br_f (qn_ge hi) ⟨qn_in hi, ?_⟩
    rw [qn_cl hi]
    exact qh_XB (hF i hi) hc (fun f => nm_r (nI_1 i) (IH x (qj_i (P := fun d => F d c) hx f))) (fun f => nm_e (nm_r (nI_1 i) (IH _ (qj_t (P := fun d => F d c) hi hx f))))
theorem qR_Y {post : Int64 → SY → Prop} (ks os oa ob oc fr : Nat → Int32) (di fa : Nat → Int64) (wk nx : Nat → Int32) {F : Nat → Nat → Bool} (hF : ∀ j, j < 36 → qb_m (fa j) (F j)) {c : Nat} (hc : c < 36) (h : ∀ x, qb_m x (fun d => F d c) → post x (ks, os, oa, ob, oc, fr, di, fa, wk, nx)) : ∃ n21 : Nat, wY_readers_21 post (nI c) ks os oa ob oc fr di fa wk nx n21 0 0 := by
  refine loop_0 (fun n i (x : Int64) => wY_readers_21 post (nI c) ks os oa ob oc fr di fa wk nx n x (nI i)) (fun i x => qb_m x (fun d => decide (d < i) && F d c)) 36 0 (qb_mc qb_m0 (fun _ _ => rfl)) ?_ ?_
  · intro n x hx
    exact br_t qn_le (h x (qb_mc hx (fun e he => by rw [decide_eq_true he, Bool.true_and])))
  · intro n i x hi hx IH
    refine br_f (qn_ge hi) ⟨qn_in hi, ?_⟩
    rw [qn_cl hi]
    exact qh_YB (hF i hi) hc (fun f => nm_r (nI_1 i) (IH x (qj_i (P := fun d => F d c) hx f))) (fun f => nm_e (nm_r (nI_1 i) (IH _ (qj_t (P := fun d => F d c) hi hx f))))
/-- inState -/
def qI_n (S : Nat → Nat) (x : Int32) : Nat → Int32
  | 0 => 0
  | n + 1 => if nI (S n) = x then qI_n S x n + 1 else qI_n S x n
theorem qI_X {post : Int32 → Prop} (kd nm op fi se th ow sh : Nat → Int32) (dr so : Nat → Int64) (st vl dp : Nat → Int32) {S : Nat → Nat} (hT : ∀ j, j < 36 → st j = nI (S j)) {x : Int32} (h : post (qI_n S x 36)) : ∃ n15 : Nat, wX_inState_15 post x kd nm op fi se th ow sh dr so st vl dp n15 0 0 := by
  refine loop_0 (fun n i (s : Int32) => wX_inState_15 post x kd nm op fi se th ow sh dr so st vl dp n s (nI i)) (fun i s => s = qI_n S x i) 36 0 rfl ?_ ?_
  · intro n s hs
    refine br_t qn_le ?_
    rw [hs]; exact h
  · intro n i s hi hs IH
    refine br_f (qn_ge hi) ⟨qn_in hi, ?_⟩
    rw [qn_cl hi, hT i hi]
    refine br_c (fun e => nm_e (nm_r (nI_1 i) (IH _ ?_))) (fun e => nm_r (nI_1 i) (IH s ?_))
    · show s + 1 = if nI (S i) = x then _ else _
      rw [if_pos e, hs]
    · show s = if nI (S i) = x then _ else _
      rw [if_neg e]; exact hs
theorem qI_Y {post : Int32 → SY → Prop} (ks os oa ob oc fr : Nat → Int32) (di fa : Nat → Int64) (wk nx : Nat → Int32) {nm op : Nat → Int32} {K A B C : Nat → Nat} {D : Nat → Nat → Bool} (Y : qy_C ks os oa ob oc K A B C nm op) (G : qp_G K A B C) (hO : ∀ j, j < 36 → fr j = qp_oi (qp_W K A B j)) (hF : ∀ j, j < 36 → qb_m (fa j) (qf_F D j)) {x : Int32} (h : post (qI_n (qp_st D K (qp_W K A B)) x 36) (ks, os, oa, ob, oc, fr, di, fa, wk, nx)) : ∃ n19 : Nat, wY_inState_19 post x ks os oa ob oc fr di fa wk nx n19 0 0 := by
  refine loop_0 (fun n i (s : Int32) => wY_inState_19 post x ks os oa ob oc fr di fa wk nx n s (nI i)) (fun i s => s = qI_n (qp_st D K (qp_W K A B)) x i) 36 0 rfl ?_ ?_
  · intro n s hs
    refine br_t qn_le ?_
    rw [hs]; exact h
  · intro n i s hi hs IH
    refine br_f (qn_ge hi) (qf_Y ks os oa ob oc fr di fa wk nx Y G hO hF hi ?_)
    refine br_c (fun e => nm_e (nm_r (nI_1 i) (IH _ ?_))) (fun e => nm_r (nI_1 i) (IH s ?_))
    · show s + 1 = if nI (qp_st D K (qp_W K A B) i) = x then _ else _
      rw [if_pos e, hs]
    · show s = if nI (qp_st D K (qp_W K A B) i) = x then _ else _
      rw [if_neg e]; exact hs
/-- total and sum over a rectangle's number -/
theorem qT_Y {post : Int32 → SY → Prop} (ks os oa ob oc fr : Nat → Int32) (di fa : Nat → Int64) (wk nx : Nat → Int32) {q : Nat} (hq : q < 1296) (h : post (qs_m (fun d => qp_ins d (q / 36) (q % 36)) wk 36) (ks, os, oa, ob, oc, fr, di, fa, wk, nx)) : ∃ n18 : Nat, wY_total_18 post (nI q) ks os oa ob oc fr di fa wk nx n18 0 0 := by
  refine loop_0 (fun n i (s : Int32) => wY_total_18 post (nI q) ks os oa ob oc fr di fa wk nx n s (nI i)) (fun i s => s = qs_m (fun d => qp_ins d (q / 36) (q % 36)) wk i) 36 0 rfl ?_ ?_
  · intro n s hs
    refine br_t qn_le ?_
    rw [hs]; exact h
  · intro n i s hi hs IH
    refine br_f (qn_ge hi) ⟨qn_36, qn_36, ?_⟩
    rw [qn_m36 (by omega), qn_d36 (by omega)]
    refine qi_insB hi (by omega) (by omega) (fun f => nm_r (nI_1 i) (IH s ?_)) (fun t => ⟨qn_in hi, nm_e (nm_r (nI_1 i) (IH _ ?_))⟩)
    · show s = if qp_ins i (q / 36) (q % 36) = true then _ else _
      rw [if_neg (by rw [f]; decide)]; exact hs
    · show s + wk (nI i).toNatClampNeg = if qp_ins i (q / 36) (q % 36) = true then _ else _
      rw [if_pos t, qn_cl hi, hs]
theorem qN_Y {post : Int32 → SY → Prop} (ks os oa ob oc fr : Nat → Int32) (di fa : Nat → Int64) (wk nx : Nat → Int32) {q : Nat} (hq : q < 1296) (h : post (nI (qr_n (fun d => qp_ins d (q / 36) (q % 36)) 36)) (ks, os, oa, ob, oc, fr, di, fa, wk, nx)) : ∃ n41 : Nat, wY_sum_41 post (nI q) ks os oa ob oc fr di fa wk nx n41 0 0 := by
  refine loop_0 (fun n i (s : Int32) => wY_sum_41 post (nI q) ks os oa ob oc fr di fa wk nx n s (nI i)) (fun i s => s = nI (qr_n (fun d => qp_ins d (q / 36) (q % 36)) i)) 36 0 rfl ?_ ?_
  · intro n s hs
    refine br_t qn_le ?_
    rw [hs]; exact h
  · intro n i s hi hs IH
    refine br_f (qn_ge hi) ⟨qn_36, qn_36, ?_⟩
    rw [qn_m36 (by omega), qn_d36 (by omega)]
    refine qi_insB hi (by omega) (by omega) (fun f => nm_r (nI_1 i) (IH s ?_)) (fun t => nm_e (nm_r (nI_1 i) (IH _ ?_)))
    · show s = nI (qr_n _ i + if qp_ins i (q / 36) (q % 36) = true then 1 else 0)
      rw [if_neg (by rw [f]; decide)]; exact hs
    · show s + 1 = nI (qr_n _ i + if qp_ins i (q / 36) (q % 36) = true then 1 else 0)
      rw [if_pos t, hs, nI_1]
theorem qN_c : ∀ a, a < 36 → ∀ b, b < 36 → a / 6 ≤ b / 6 → a % 6 ≤ b % 6 → qr_n (fun d => qp_ins d a b) 36 = (b / 6 - a / 6 + 1) * (b % 6 - a % 6 + 1) := by decide +kernel
