/-! Y: canOpen, take, settle, shown, reads, widen, trace, spoilt, stateOf -/
def qy_C (ks os oa ob oc : Nat → Int32) (K A B C : Nat → Nat) (nm op : Nat → Int32) : Prop := ∀ j, j < 36 → ks j = nI (K j) ∧ oa j = (if K j = 1 then nm j else nI (A j)) ∧ ob j = nI (B j) ∧ oc j = nI (C j) ∧ (K j = 2 → os j = op j)
theorem qy_a {ks os oa ob oc : Nat → Int32} {K A B C : Nat → Nat} {nm op : Nat → Int32} (Y : qy_C ks os oa ob oc K A B C nm op) {j : Nat} (hj : j < 36) (h : K j ≠ 1) : oa j = nI (A j) := by
  rw [(Y j hj).2.1, if_neg h]
theorem qa_Y {post : Int32 → Prop} (ks os oa ob oc fr : Nat → Int32) (di fa : Nat → Int64) (wk nx : Nat → Int32) {nm op : Nat → Int32} {K A B C W : Nat → Nat} (Y : qy_C ks os oa ob oc K A B C nm op) (G : qp_G K A B C) (hO : ∀ j, j < 36 → fr j = qp_oi (W j)) (hW : ∀ j, W j ≤ 36) {s : Nat} (hs : s < 36) (hK : K s = 5) (h0 : qp_can K A B W s = false → post 0) (h1 : qp_can K A B W s = true → post 1) : wpY_canOpen post (ks, os, oa, ob, oc, fr, di, fa, wk, nx) (nI s) := by
  have g := G s hs
  have g2 := g.2.2.2.2 (Or.inr hK)
  have gA := g.2.1
  have gB := g.2.2.1
  have y := Y s hs
  refine ⟨qn_in hs, qn_6, qn_in hs, qn_6, qn_in hs, qn_6, qn_in hs, qn_6, qm_Y ?_⟩
  rw [qn_cl hs, qy_a Y hs (by omega), y.2.2.1, qn_d6 (a := A s) (by omega), qn_d6 (a := B s) (by omega), qn_m6' (a := A s) (by omega), qn_m6' (a := B s) (by omega), pk_sub g2.1, pk_sub g2.2]
  rcases qm_ok (a := s) hs (nI_toInt (n := B s / 6 - A s / 6) (by omega)) (nI_toInt (n := B s % 6 - A s % 6) (by omega)) (by omega) (by omega) with ⟨b, hb, e, e1, e2⟩ | ⟨e, hn⟩
  · have hf : qp_fit A B s = true := by rw [qp_fitI]; omega
    have he : b = qp_end A B s := by
      unfold qp_end
      omega
    rw [e]
    refine br_t (nI_pos' (by omega)) ?_
    refine loop_0 (fun n i (_ : Unit) => wY_canOpen_52 post (nI s) (nI b) ks os oa ob oc fr di fa wk nx n (nI i)) (fun i _ => ∀ c, c < i → qp_bar K W s (qp_end A B s) c = false) 36 () (fun c hc => absurd hc (Nat.not_lt_zero c)) ?_ ?_
    · intro n _ hI
      exact br_t qn_le (h1 (qp_canT hf hI))
    · intro n i _ hi hI IH
      have yi := Y i hi
      refine br_f (qn_ge hi) (qi_insB hi hs hb (fun f => nm_r (nI_1 i) (IH () (lt_s hI (qp_barF (by rw [← he]; exact f))))) (fun t => ?_))
      rw [he] at t
      have H85 : (i = s ∨ K i = 0) → wY_canOpen_85 post (wY_canOpen_52 post (nI s) (nI b) ks os oa ob oc fr di fa wk nx n) (nI s) (nI b) (nI i) ks os oa ob oc fr di fa wk nx := by
        intro hz
        refine ⟨qn_in hi, ?_⟩
        rw [qn_cl hi, hO i hi]
        exact ek_if (qp_oiL (hW i)) (fun w => nm_r (nI_1 i) (IH () (lt_s hI (qp_barZ hz w)))) (fun w => h0 (qp_canF hi (qp_barW t w)))
      refine br_c (fun z => H85 (Or.inl ((qn_eq (by omega) (by omega)).mp z))) (fun z => ⟨qn_in hi, ?_⟩)
      have z2 : i ≠ s := fun y => z (by rw [y])
      have gK := (G i hi).1
      rw [qn_cl hi, yi.1]
      by_cases k : K i = 0
      · exact br_t (by rw [k]; rfl) (H85 (Or.inr k))
      · exact br_f (nI_ne0 (by omega) (by omega)) (h0 (qp_canF hi (qp_barK t z2 k)))
  · have hf : qp_fit A B s = false := by
      refine Bool.eq_false_iff.mpr (fun z => ?_)
      rw [qp_fitI] at z
      omega
    rw [e]
    exact br_f (by decide) (h0 (qp_canN hf))
theorem qo_Y {post : SY → Prop} (ks os oa ob oc fr : Nat → Int32) (di fa : Nat → Int64) (wk nx : Nat → Int32) {nm op : Nat → Int32} {K A B C : Nat → Nat} (Y : qy_C ks os oa ob oc K A B C nm op) (G : qp_G K A B C) {s : Nat} (hs : s < 36) (hK : K s = 5) (hf : qp_fit A B s = true)
    (h : ∀ fr' : Nat → Int32, (∀ j, j < 36 → fr' j = (if qp_ins j s (qp_end A B s) = true then nI s else fr j)) → post (ks, os, oa, ob, oc, fr', di, fa, wk, nx)) : wpY_take post (ks, os, oa, ob, oc, fr, di, fa, wk, nx) (nI s) := by
  have g := G s hs
  have g2 := g.2.2.2.2 (Or.inr hK)
  have gA := g.2.1
  have gB := g.2.2.1
  have y := Y s hs
  have hf2 := qp_fitI.mp hf
  refine ⟨qn_in hs, qn_6, qn_in hs, qn_6, qn_in hs, qn_6, qn_in hs, qn_6, qm_Y ?_⟩
  rw [qn_cl hs, qy_a Y hs (by omega), y.2.2.1, qn_d6 (a := A s) (by omega), qn_d6 (a := B s) (by omega), qn_m6' (a := A s) (by omega), qn_m6' (a := B s) (by omega), pk_sub g2.1, pk_sub g2.2]
  rcases qm_ok (a := s) hs (nI_toInt (n := B s / 6 - A s / 6) (by omega)) (nI_toInt (n := B s % 6 - A s % 6) (by omega)) (by omega) (by omega) with ⟨b, hb, e, e1, e2⟩ | ⟨e, hn⟩
  · have he : b = qp_end A B s := by
      unfold qp_end
      omega
    rw [e]
    rw [← he] at h
    refine loop_0 (fun n i (f : Nat → Int32) => wY_take_46 post (nI s) (nI b) n (nI i) ks os oa ob oc f di fa wk nx) (fun i f => ∀ j, j < 36 → f j = (if (decide (j < i) && qp_ins j s b) = true then nI s else fr j)) 36 fr (fun j hj => rfl) ?_ ?_
    · intro n f hI
      refine br_t qn_le (h f (fun j hj => ?_))
      rw [hI j hj, decide_eq_true hj, Bool.true_and]
    · intro n i f hi hI IH
      refine br_f (qn_ge hi) (qi_insB hi hs hb (fun q => nm_r (nI_1 i) (IH f (fun j hj => ?_))) (fun q => ⟨qn_in hi, nm_e (nm_r (nI_1 i) (IH _ (fun j hj => ?_)))⟩))
      · rw [hI j hj]
        by_cases ej : j = i
        · subst ej; rw [q, Bool.and_false, Bool.and_false]
        · have z : (j < i) ↔ (j < i + 1) := by omega
          rw [decide_eq_decide.mpr z]
      · rw [qn_cl hi]
        by_cases ej : j = i
        · subst ej; rw [pk_us, q, decide_eq_true (Nat.lt_succ_self j)]; rfl
        · have z : (j < i) ↔ (j < i + 1) := by omega
          rw [pk_un ej, hI j hj, decide_eq_decide.mpr z]
  · exact absurd hn (by omega)
theorem qs_Y {post : SY → Prop} (ks os oa ob oc fr : Nat → Int32) (di fa : Nat → Int64) (wk nx : Nat → Int32) {nm op : Nat → Int32} {K A B C : Nat → Nat} (Y : qy_C ks os oa ob oc K A B C nm op) (G : qp_G K A B C)
    (h : ∀ fr' : Nat → Int32, (∀ j, j < 36 → fr' j = qp_oi (qp_W K A B j)) → post (ks, os, oa, ob, oc, fr', di, fa, wk, nx)) : wpY_settle post (ks, os, oa, ob, oc, fr, di, fa, wk, nx) := by
  refine loop_0 (fun n i (f : Nat → Int32) => wY_settle_2 post n (nI i) ks os oa ob oc f di fa wk nx) (fun i f => ∀ j, j < i → f j = -2) 36 fr (fun j hj => absurd hj (Nat.not_lt_zero j)) ?_ ?_
  · intro n f hI
    refine br_t qn_le ?_
    refine loop_0 (fun n i (f : Nat → Int32) => wY_settle_24 post n (nI i) ks os oa ob oc f di fa wk nx) (fun i f => ∀ j, j < 36 → f j = qp_oi (qp_ow K A B i j)) 36 f hI ?_ ?_
    · intro n f hI
      exact br_t qn_le (h f hI)
    · intro n i f hi hI IH
      have y := Y i hi
      have gK := (G i hi).1
      refine br_f (qn_ge hi) ⟨qn_in hi, ?_⟩
      rw [qn_cl hi, y.1]
      by_cases k5 : K i = 5
      · refine br_t (by rw [k5]; rfl) ?_
        refine qa_Y ks os oa ob oc f di fa wk nx Y G (W := qp_ow K A B i) hI (fun j => Nat.le_trans (qp_ow_le K A B i j) (by omega)) hi k5 (fun c => ?_) (fun c => ?_)
        · refine br_t rfl (nm_r (nI_1 i) (IH f ?_))
          rw [qp_owN (K := K) (A := A) (B := B) (n := i) (fun z => by rw [c] at z; exact absurd z.2 (by decide))]
          exact hI
        · refine br_f (by decide) ?_
          refine qo_Y ks os oa ob oc f di fa wk nx Y G hi k5 (qp_canI c).1 (fun f' hf' => ?_)
          refine nm_r (nI_1 i) (IH f' (fun j hj => ?_))
          rw [hf' j hj, qp_owS (K := K) (A := A) (B := B) (n := i) ⟨k5, c⟩ j]
          by_cases z : qp_ins j i (qp_end A B i) = true
          · rw [if_pos z, if_pos z]; rfl
          · rw [if_neg z, if_neg z]; exact hI j hj
      · refine br_f (fun z => k5 ((qn_eq (b := 5) (by omega) (by omega)).mp z)) (nm_r (nI_1 i) (IH f ?_))
        rw [qp_owN (K := K) (A := A) (B := B) (n := i) (fun z => k5 z.1)]
        exact hI
  · intro n i f hi hI IH
    refine br_f (qn_ge hi) ⟨qn_in hi, nm_e (nm_r (nI_1 i) (IH _ (fun j hj => ?_)))⟩
    rw [qn_cl hi]
    by_cases e : j = i
    · subst e; rw [pk_us]
    · rw [pk_un e]; exact hI j (by omega)
theorem qh_S {post : Int32 → Prop} (ks os oa ob oc fr : Nat → Int32) (di fa : Nat → Int64) (wk nx : Nat → Int32) {nm op : Nat → Int32} {K A B C : Nat → Nat} (Y : qy_C ks os oa ob oc K A B C nm op) (G : qp_G K A B C) (hO : ∀ j, j < 36 → fr j = qp_oi (qp_W K A B j)) {c : Nat} (hc : c < 36) (h : post (qp_si A (qp_W K A B) c)) : wpY_shown post (ks, os, oa, ob, oc, fr, di, fa, wk, nx) (nI c) := by
  refine ⟨qn_in hc, nm_e ?_⟩
  rw [qn_cl hc, hO c hc]
  refine ek_if (qp_oiP (qp_Wle K A B c)) (fun w => ?_) (fun w => ?_)
  · obtain ⟨s, hs, e1, e2, e3, e4, e5, e6, e7, e8, e9, e10, e11, e12⟩ := qp_own G (Nat.le_refl 36) hc w
    have e1' : qp_W K A B c = s + 1 := e1
    have e6' : qp_sh A (qp_W K A B) c = A s + (c - s) := e6
    rw [qp_si1 w, e6'] at h
    rw [e1', qp_oi1]
    refine ⟨qn_in hs, qn_6, qn_6, qn_6, qn_6, qm_Y ?_⟩
    rw [qn_cl hs, qy_a Y hs (by omega), qn_d6 (a := c) (by omega), qn_d6 (a := s) (by omega), qn_m6' (a := c) (by omega), qn_m6' (a := s) (by omega), pk_sub e10, pk_sub e11]
    rcases qm_ok (a := A s) e12 (nI_toInt (n := c / 6 - s / 6) (by omega)) (nI_toInt (n := c % 6 - s % 6) (by omega)) (by omega) (by omega) with ⟨b, hb, e, d1, d2⟩ | ⟨e, hn⟩
    · rw [e]
      have eb : b = A s + (c - s) := by omega
      rw [eb]
      exact h
    · exact absurd hn (by omega)
  · have w0 : qp_W K A B c = 0 := Classical.not_not.mp w
    unfold qp_si at h
    rw [if_pos w0] at h
    exact h
theorem qn_b0 : narrow .boolean (.int 0) = .int 0 := by
  have h := lw_bz_n 0
  rw [show lw_bz 0 = 0 from if_pos rfl] at h
  exact h
theorem qn_b1 : narrow .boolean (.int 1) = .int 1 := by
  have h := lw_bz_n 1
  rw [show lw_bz 1 = 1 from if_neg (by decide)] at h
  exact h
theorem qr_Y {post : Int32 → Prop} (ks os oa ob oc fr : Nat → Int32) (di fa : Nat → Int64) (wk nx : Nat → Int32) {nm op : Nat → Int32} {K A B C : Nat → Nat} (Y : qy_C ks os oa ob oc K A B C nm op) (G : qp_G K A B C) (hO : ∀ j, j < 36 → fr j = qp_oi (qp_W K A B j)) {c d : Nat} (hc : c < 36) (hd : d < 36) (h0 : qp_D K A B C (qp_W K A B) c d = false → post 0) (h1 : qp_D K A B C (qp_W K A B) c d = true → post 1) : wpY_reads post (ks, os, oa, ob, oc, fr, di, fa, wk, nx) (nI c) (nI d) := by
  have g := G c hc
  have y := Y c hc
  refine ⟨qn_in hc, ?_⟩
  rw [qn_cl hc, hO c hc, y.1, y.2.2.1, y.2.2.2.1]
  refine ek_if (qp_oiL (qp_Wle K A B c)) (fun w => ⟨qn_in hc, br_c (fun k => ⟨qn_in hc, ?_⟩) (fun k2 => ⟨qn_in hc, br_c (fun k => ⟨qn_in hc, qn_in hc, ?_⟩) (fun k3 => ⟨qn_in hc, br_c (fun k => ⟨qn_in hc, ?_⟩) (fun k4 => ?_)⟩)⟩)⟩) (fun w => ?_)
  · have k' : K c = 2 := (qn_eq (b := 2) (by omega) (by omega)).mp k
    rw [qy_a Y hc (by omega), qn_eq (by omega) (by omega), qn_eq (by omega) (by omega)]
    rw [qp_D_2 w k'] at h0 h1
    refine br_c (fun e => h1 ?_) (fun e => ⟨qn_in hc, br_c (fun e2 => h1 ?_) (fun e2 => h0 ?_)⟩)
    · rw [decide_eq_true e.symm]; rfl
    · rw [decide_eq_true e2.symm, Bool.or_true]
    · rw [decide_eq_false (fun z => e z.symm), decide_eq_false (fun z => e2 z.symm)]; rfl
  · have k' : K c = 3 := (qn_eq (b := 3) (by omega) (by omega)).mp k
    rw [qp_D_3 w k'] at h0 h1
    rw [qy_a Y hc (by omega)]
    exact qi_ins hd g.2.1 g.2.2.1 (fun f => ⟨qn_b0, h0 f⟩) (fun f => ⟨qn_b1, h1 f⟩)
  · have k' : K c = 4 := (qn_eq (b := 4) (by omega) (by omega)).mp k
    rw [qy_a Y hc (by omega), qn_eq (by omega) (by omega), qn_eq (by omega) (by omega), qn_eq (by omega) (by omega)]
    rw [qp_D_4 w k'] at h0 h1
    refine br_c (fun e => h1 ?_) (fun e => ⟨qn_in hc, br_c (fun e2 => h1 ?_) (fun e2 => ⟨qn_in hc, br_c (fun e3 => h1 ?_) (fun e3 => h0 ?_)⟩)⟩)
    · rw [decide_eq_true e.symm]; rfl
    · rw [decide_eq_true e2.symm, Bool.or_true]; rfl
    · rw [decide_eq_true e3.symm, Bool.or_true]
    · rw [decide_eq_false (fun z => e z.symm), decide_eq_false (fun z => e2 z.symm), decide_eq_false (fun z => e3 z.symm)]; rfl
  · refine h0 (qp_D_n w ⟨fun z => k2 (by rw [z]; rfl), fun z => k3 (by rw [z]; rfl), fun z => k4 (by rw [z]; rfl)⟩ d)
  · rw [qp_D_sh w] at h0 h1
    refine qh_S ks os oa ob oc fr di fa wk nx Y G hO hc ?_
    have hl := qp_shL G hc w
    rw [qp_si1 w, qn_eq (by omega) (by omega)]
    exact br_c (fun e => h1 (decide_eq_true e.symm)) (fun e => h0 (decide_eq_false (fun z => e z.symm)))
/-- widen: T0 at the pass's beginning, T now, the cells below i through -/
def qu_I (F T0 : Nat → Nat → Bool) (i : Nat) (x : Int32) (fa : Nat → Int64) : Prop :=
  ∃ T : Nat → Nat → Bool, (∀ j, j < 36 → qb_m (fa j) (T j)) ∧ (∀ c d, c < 36 → d < 36 → T0 c d = true → T c d = true) ∧ (∀ c d, c < 36 → d < 36 → T c d = true → F c d = true) ∧ (∀ c k d, c < i → k < 36 → d < 36 → T0 c k = true → T0 k d = true → T c d = true) ∧ (x = 0 → ∀ c d, c < 36 → d < 36 → T c d = T0 c d) ∧ (x = 0 ∨ x = 1)
def qu_r (T : Nat → Nat → Bool) (i c : Nat) : Nat → Bool := if c = i then (fun e => T i e || qe_x (fun k => T i k && T k e) 36) else T c
theorem qu_ri (T : Nat → Nat → Bool) (i : Nat) : qu_r T i i = (fun e => T i e || qe_x (fun k => T i k && T k e) 36) := if_pos rfl
theorem qu_rn (T : Nat → Nat → Bool) {i c : Nat} (h : ¬ c = i) : qu_r T i c = T c := if_neg h
theorem qu_Y {post : Int32 → SY → Prop} (ks os oa ob oc fr : Nat → Int32) (di fa : Nat → Int64) (wk nx : Nat → Int32) {F T0 : Nat → Nat → Bool} (hT : ∀ j, j < 36 → qb_m (fa j) (T0 j)) (hF : ∀ c d, c < 36 → d < 36 → T0 c d = true → F c d = true) (tr : ∀ c k d, c < 36 → k < 36 → d < 36 → F c k = true → F k d = true → F c d = true)
    (h : ∀ (r : Int32) (fa' : Nat → Int64), qu_I F T0 36 r fa' → post r (ks, os, oa, ob, oc, fr, di, fa', wk, nx)) : wpY_widen post (ks, os, oa, ob, oc, fr, di, fa, wk, nx) := by
  refine loop_0 (fun n i (t : Int32 × (Nat → Int64)) => wY_widen_4 post n t.1 (nI i) ks os oa ob oc fr di t.2 wk nx) (fun i t => i ≤ 36 ∧ qu_I F T0 i t.1 t.2) 36 (0, fa) ?_ ?_ ?_
  · exact ⟨by omega, T0, hT, fun _ _ _ _ h => h, hF, fun c _ _ hc => absurd hc (Nat.not_lt_zero c), fun _ _ _ _ _ => rfl, Or.inl rfl⟩
  · intro n t hI
    refine br_t qn_le ⟨?_, h t.1 t.2 hI.2⟩
    obtain ⟨T, _, _, _, _, _, hx⟩ := hI.2
    rcases hx with hx | hx
    · rw [hx]; exact qn_b0
    · rw [hx]; exact qn_b1
  · intro n i t hi hI IH
    obtain ⟨T, m, a1, a2, a3, a4, a5⟩ := hI.2
    refine br_f (qn_ge hi) ⟨qn_in hi, nm_e ?_⟩
    rw [qn_cl hi]
    refine loop_0 (fun n2 d (x : Int64) => wY_widen_20 post (wY_widen_4 post n) t.1 (nI i) ks os oa ob oc fr di t.2 wk nx n2 x (nI d)) (fun d x => qb_m x (fun e => T i e || qe_x (fun k => T i k && T k e) d)) 36 (t.2 i) (qb_mc (m i hi) (fun e _ => (Bool.or_false _).symm)) ?_ ?_
    · intro n2 x hx
      have new : ∀ (y : Int32), (y = 0 → t.1 = 0 ∧ x = t.2 i) → (y = 0 ∨ y = 1) → qu_I F T0 (i + 1) y (vp_updL t.2 i x) := by
        intro y hy0 hy1
        refine ⟨qu_r T i, fun j hj => ?_, fun c d hc hd h0 => ?_, fun c d hc hd h0 => ?_, fun c k d hc hk hd b1 b2 => ?_, fun hy c d hc hd => ?_, hy1⟩
        · by_cases e : j = i
          · subst e; rw [pk_uLs, qu_ri]; exact hx
          · rw [pk_uLn e, qu_rn T e]; exact m j hj
        · by_cases e : c = i
          · subst e; rw [qu_ri]
            show (T c d || _) = true
            rw [a1 c d hc hd h0]; rfl
          · rw [qu_rn T e]; exact a1 c d hc hd h0
        · by_cases e : c = i
          · subst e; rw [qu_ri] at h0
            have h0' : (T c d || qe_x (fun k => T c k && T k d) 36) = true := h0
            rw [Bool.or_eq_true, qe_iff] at h0'
            rcases h0' with h0' | ⟨k, hk, hkk⟩
            · exact a2 c d hc hd h0'
            · rw [Bool.and_eq_true] at hkk
              exact tr c k d hc hk hd (a2 c k hc hk hkk.1) (a2 k d hk hd hkk.2)
          · rw [qu_rn T e] at h0; exact a2 c d hc hd h0
        · by_cases e : c = i
          · subst e; rw [qu_ri]
            show (T c d || qe_x (fun k => T c k && T k d) 36) = true
            rw [Bool.or_eq_true, qe_iff]
            exact Or.inr ⟨k, hk, by rw [a1 c k hi hk b1, a1 k d hk hd b2]; rfl⟩
          · rw [qu_rn T e]; exact a3 c k d (by omega) hk hd b1 b2
        · obtain ⟨y1, y2⟩ := hy0 hy
          by_cases e : c = i
          · subst e; rw [qu_ri]
            rw [y2] at hx
            have p := qb_mt hx hd
            rw [qb_mt (m c hc) hd] at p
            rw [← a4 y1 c d hc hd]
            exact p.symm
          · rw [qu_rn T e]; exact a4 y1 c d hc hd
      refine br_t qn_le ⟨qn_in hi, ?_⟩
      rw [qn_cl hi]
      refine br_c (fun e => ⟨qn_in hi, nm_e (nm_r (nI_1 i) (IH (t.1, vp_updL t.2 i x) ⟨by omega, new t.1 (fun z => ⟨z, e⟩) a5⟩))⟩) (fun e => ⟨qn_in hi, nm_e (nm_r (nI_1 i) (IH (1, vp_updL t.2 i x) ⟨by omega, new 1 (fun z => absurd z (by decide)) (Or.inr rfl)⟩))⟩)
    · intro n2 d x hd hx IH2
      refine br_f (qn_ge hd) ⟨qn_in hi, ?_⟩
      rw [qn_cl hi]
      refine qh_YB (m i hi) hd (fun f => nm_r (nI_1 d) (IH2 x (qb_mc hx (fun e _ => ?_)))) (fun f => ⟨qn_in hd, nm_e (nm_r (nI_1 d) (IH2 _ ?_))⟩)
      · show _ = (T i e || (qe_x (fun k => T i k && T k e) d || (T i d && T d e)))
        rw [f, Bool.false_and, Bool.or_false]
      · rw [qn_cl hd]
        refine qb_mc (qb_mor hx (m d hd)) (fun e _ => ?_)
        show _ = (T i e || (qe_x (fun k => T i k && T k e) d || (T i d && T d e)))
        rw [f, Bool.true_and, Bool.or_assoc]
/-- between the passes of trace -/
def qt_I (D : Nat → Nat → Bool) (k : Nat) (x : Int32) (fa : Nat → Int64) : Prop :=
  ∃ T : Nat → Nat → Bool, (∀ j, j < 36 → qb_m (fa j) (T j)) ∧ (∀ c d, c < 36 → d < 36 → qw_m D k c d = true → T c d = true) ∧ (∀ c d, c < 36 → d < 36 → T c d = true → qf_F D c d = true) ∧ (x = 0 → ∀ c k d, c < 36 → k < 36 → d < 36 → T c k = true → T k d = true → T c d = true)
theorem qt_e1 {D : Nat → Nat → Bool} {x : Int32} {fa : Nat → Int64} (h : qt_I D 36 x fa) : ∀ j, j < 36 → qb_m (fa j) (qf_F D j) := by
  obtain ⟨T, m, a1, a2, _⟩ := h
  intro j hj
  refine qb_mc (m j hj) (fun d hd => ?_)
  cases e : T j d with
  | true => exact (a2 j d hj hd e).symm
  | false =>
    cases f : qf_F D j d with
    | false => rfl
    | true => rw [a1 j d hj hd f] at e; cases e
theorem qt_e0 {D : Nat → Nat → Bool} {k : Nat} {fa : Nat → Int64} (h : qt_I D k 0 fa) : ∀ j, j < 36 → qb_m (fa j) (qf_F D j) := by
  obtain ⟨T, m, a1, a2, a3⟩ := h
  intro j hj
  refine qb_mc (m j hj) (fun d hd => ?_)
  cases e : T j d with
  | true => exact (a2 j d hj hd e).symm
  | false =>
    cases f : qf_F D j d with
    | false => rfl
    | true =>
      have z := qw_min (D := D) (fun c d => c < 36 → d < 36 → T c d = true) (fun c d q hc hd => a1 c d hc hd (qw_D q k)) (fun c k d hk q1 q2 hc hd => a3 rfl c k d hc hk hd (q1 hc hk) (q2 hk hd)) 36 (Nat.le_refl _) f hj hd
      rw [e] at z; cases z
theorem qt_Y {post : SY → Prop} (ks os oa ob oc fr : Nat → Int32) (di fa : Nat → Int64) (wk nx : Nat → Int32) {nm op : Nat → Int32} {K A B C : Nat → Nat} (Y : qy_C ks os oa ob oc K A B C nm op) (G : qp_G K A B C)
    (h : ∀ (fr' : Nat → Int32) (di' fa' : Nat → Int64), (∀ j, j < 36 → fr' j = qp_oi (qp_W K A B j)) → (∀ j, j < 36 → qb_m (di' j) (qp_D K A B C (qp_W K A B) j)) → (∀ j, j < 36 → qb_m (fa' j) (qf_F (qp_D K A B C (qp_W K A B)) j)) → post (ks, os, oa, ob, oc, fr', di', fa', wk, nx)) : wpY_trace post (ks, os, oa, ob, oc, fr, di, fa, wk, nx) := by
  unfold wpY_trace
  dsimp only
  refine qs_Y ks os oa ob oc fr di fa wk nx Y G (fun fr' hO => ?_)
  refine loop_0 (fun n i (t : (Nat → Int64) × (Nat → Int64)) => wY_trace_6 post n (nI i) ks os oa ob oc fr' t.1 t.2 wk nx) (fun i t => ∀ j, j < i → qb_m (t.1 j) (qp_D K A B C (qp_W K A B) j) ∧ qb_m (t.2 j) (qp_D K A B C (qp_W K A B) j)) 36 (di, fa) (fun j hj => absurd hj (Nat.not_lt_zero j)) ?_ ?_
  · intro n t hI
    refine br_t qn_le ?_
    refine loop_0 (fun n k (s : Int32 × (Nat → Int64)) => wY_trace_80 post n s.1 (nI k) ks os oa ob oc fr' t.1 s.2 wk nx) (fun k s => qt_I (qp_D K A B C (qp_W K A B)) k s.1 s.2) 36 (1, t.2) ?_ ?_ ?_
    · exact ⟨_, fun j hj => (hI j hj).2, fun _ _ _ _ q => q, fun _ _ _ _ q => qf_D q, fun z => absurd (show (1 : Int32) = 0 from z) (by decide)⟩
    · intro n s hS
      exact br_t qn_le (h fr' t.1 s.2 hO (fun j hj => (hI j hj).1) (qt_e1 hS))
    · intro n k s hk hS IH
      refine br_f (qn_ge hk) (br_c (fun z => ?_) (fun z => ?_))
      · rw [z] at hS
        exact h fr' t.1 s.2 hO (fun j hj => (hI j hj).1) (qt_e0 hS)
      · obtain ⟨T, m, a1, a2, a3⟩ := hS
        refine qu_Y (post := _) ks os oa ob oc fr' t.1 s.2 wk nx (F := qf_F (qp_D K A B C (qp_W K A B))) (T0 := T) m a2 (fun c k d _ hk _ q1 q2 => qf_tr hk q1 q2) (fun r fa' hu => ?_)
        refine nm_r (nI_1 k) (IH (r, fa') ?_)
        obtain ⟨T', m', b1, b2, b3, b4, b5⟩ := hu
        refine ⟨T', m', fun c d hc hd q => ?_, b2, fun hr c k d hc hk hd q1 q2 => ?_⟩
        · rw [qw_si] at q
          rcases q with q | ⟨q1, q2⟩
          · exact b1 c d hc hd (a1 c d hc hd q)
          · exact b3 c k d hc hk hd (a1 c k hc hk q1) (a1 k d hk hd q2)
        · have e := b4 hr
          rw [e c k hc hk] at q1
          rw [e k d hk hd] at q2
          exact b3 c k d hc hk hd q1 q2
  · intro n i t hi hI IH
    refine br_f (qn_ge hi) ⟨qn_in hi, nm_e ?_⟩
    rw [qn_cl hi]
    refine loop_0 (fun n2 d (s : Nat → Int64) => wY_trace_21 post (wY_trace_6 post n) (nI i) n2 (nI d) ks os oa ob oc fr' s t.2 wk nx) (fun d s => (∀ j, j < i → qb_m (s j) (qp_D K A B C (qp_W K A B) j)) ∧ qb_m (s i) (fun e => decide (e < d) && qp_D K A B C (qp_W K A B) i e)) 36 (vp_updL t.1 i 0) ⟨fun j hj => ?_, ?_⟩ ?_ ?_
    · rw [pk_uLn (by omega)]; exact (hI j hj).1
    · rw [pk_uLs]; exact qb_mc qb_m0 (fun e _ => rfl)
    · intro n2 s hs
      refine br_t qn_le ⟨qn_in hi, qn_in hi, nm_e (nm_r (nI_1 i) (IH (s, vp_updL t.2 (nI i).toNatClampNeg (s (nI i).toNatClampNeg)) (fun j hj => ?_)))⟩
      have si := qb_mc hs.2 (Q := qp_D K A B C (qp_W K A B) i) (fun e he => by rw [decide_eq_true he, Bool.true_and])
      show qb_m (s j) _ ∧ qb_m (vp_updL t.2 (nI i).toNatClampNeg (s (nI i).toNatClampNeg) j) _
      rw [qn_cl hi]
      by_cases e : j = i
      · subst e; rw [pk_uLs]; exact ⟨si, si⟩
      · rw [pk_uLn e]; exact ⟨hs.1 j (by omega), (hI j (by omega)).2⟩
    · intro n2 d s hd hs IH2
      refine br_f (qn_ge hd) ?_
      refine qr_Y ks os oa ob oc fr' s t.2 wk nx Y G hO hi hd (fun f => br_t rfl (nm_r (nI_1 d) (IH2 s ⟨hs.1, qj_i hs.2 f⟩))) (fun f => br_f (by decide) ⟨qn_in hi, qn_in hi, nm_e (nm_r (nI_1 d) (IH2 _ ⟨fun j hj => ?_, ?_⟩))⟩)
      · rw [qn_cl hi, pk_uLn (by omega)]; exact hs.1 j hj
      · rw [qn_cl hi, pk_uLs]; exact qj_t hd hs.2 f
theorem qp_Y {post : Int32 → Prop} (ks os oa ob oc fr : Nat → Int32) (di fa : Nat → Int64) (wk nx : Nat → Int32) {nm op : Nat → Int32} {K A B C : Nat → Nat} (Y : qy_C ks os oa ob oc K A B C nm op) (G : qp_G K A B C) (hO : ∀ j, j < 36 → fr j = qp_oi (qp_W K A B j)) {c : Nat} (hc : c < 36) (h0 : qp_sp K (qp_W K A B) c = false → post 0) (h1 : qp_sp K (qp_W K A B) c = true → post 1) : wpY_spoilt post (ks, os, oa, ob, oc, fr, di, fa, wk, nx) (nI c) := by
  have g := G c hc
  have y := Y c hc
  refine ⟨qn_in hc, ?_⟩
  rw [qn_cl hc, y.1, hO c hc]
  refine br_c (fun k => h1 (qp_spI.mpr (Or.inl ((qn_eq (b := 6) (by omega) (by omega)).mp k)))) (fun k6 => ⟨qn_in hc, br_c (fun k => ⟨qn_in hc, ?_⟩) (fun k5 => h0 ?_)⟩)
  · have k' : K c = 5 := (qn_eq (b := 5) (by omega) (by omega)).mp k
    refine ek_if (qp_oiE (qp_Wle K A B c) hc) (fun w => h0 ?_) (fun w => h1 ?_)
    · refine Bool.eq_false_iff.mpr (fun z => ?_)
      rw [qp_spI] at z
      omega
    · refine qp_spI.mpr (Or.inr ⟨k', ?_⟩)
      by_cases w0 : qp_W K A B c = 0
      · exact w0
      · obtain ⟨s, hs, e1, e2, e3, _⟩ := qp_own G (Nat.le_refl 36) hc w0
        have e1' : qp_W K A B c = s + 1 := e1
        omega
  · refine Bool.eq_false_iff.mpr (fun z => ?_)
    rcases qp_spI.mp z with z | z
    · exact k6 (by rw [z]; rfl)
    · exact k5 (by rw [z.1]; rfl)
theorem qf_Y {post : Int32 → Prop} (ks os oa ob oc fr : Nat → Int32) (di fa : Nat → Int64) (wk nx : Nat → Int32) {nm op : Nat → Int32} {K A B C : Nat → Nat} {D : Nat → Nat → Bool} (Y : qy_C ks os oa ob oc K A B C nm op) (G : qp_G K A B C) (hO : ∀ j, j < 36 → fr j = qp_oi (qp_W K A B j)) (hF : ∀ j, j < 36 → qb_m (fa j) (qf_F D j)) {c : Nat} (hc : c < 36) (h : post (nI (qp_st D K (qp_W K A B) c))) : wpY_stateOf post (ks, os, oa, ob, oc, fr, di, fa, wk, nx) (nI c) := by
  have g := G c hc
  have y := Y c hc
  have P2 : qf_c D c = true → post 2 := fun z => by rw [qp_st2.mpr z] at h; exact h
  unfold wpY_stateOf
  dsimp only
  refine ⟨qn_in hc, ?_⟩
  rw [qn_cl hc]
  refine qh_YB (hF c hc) hc (fun f0 => ?_) (fun t0 => P2 (qf_ci.mpr (Or.inl t0)))
  have main : ∀ z : Bool, qp_sp K (qp_W K A B) c = z → ∃ n24 : Nat, wY_stateOf_24 post (nI c) ks os oa ob oc fr di fa wk nx n24 (if z = true then 1 else 0) 0 := by
    intro z hz
    refine loop_0 (fun n i (x : Int32) => wY_stateOf_24 post (nI c) ks os oa ob oc fr di fa wk nx n x (nI i)) (fun i x => x = (if (qp_sp K (qp_W K A B) c || qe_x (fun d => qf_F D c d && qp_sp K (qp_W K A B) d) i) = true then 1 else 0) ∧ ∀ d, d < i → qf_F D c d = true → qf_F D d d = false) 36 _ ⟨by rw [hz]; show _ = if (z || false) = true then _ else _; rw [Bool.or_false], fun d hd => absurd hd (Nat.not_lt_zero d)⟩ ?_ ?_
    · intro n x hx
      have nc : qf_c D c = false := qf_nc.mpr ⟨f0, hx.2⟩
      have hx1 : x = if qp_bad D K (qp_W K A B) c = true then 1 else 0 := hx.1
      unfold qp_st at h
      rw [nc, if_neg (by decide)] at h
      refine br_t qn_le ?_
      rw [qn_cl hc, y.1, hO c hc]
      refine br_c (fun e => ⟨qn_in hc, br_c (fun k => ⟨qn_in hc, ek_if (qp_oiP (qp_Wle K A B c)) (fun w => ?_) (fun w => ?_)⟩) (fun k => ?_)⟩) (fun e => ?_)
      · rw [if_neg (fun q => by rw [if_pos q] at hx1; rw [hx1] at e; exact absurd e (by decide)), if_neg (fun q => w q.2)] at h
        exact h
      · have k' : K c = 0 := (qn_eq (b := 0) (by omega) (by omega)).mp k
        rw [if_neg (fun q => by rw [if_pos q] at hx1; rw [hx1] at e; exact absurd e (by decide)), if_pos ⟨k', Classical.not_not.mp w⟩] at h
        exact h
      · rw [if_neg (fun q => by rw [if_pos q] at hx1; rw [hx1] at e; exact absurd e (by decide)), if_neg (fun q => k (by rw [q.1]; rfl))] at h
        exact h
      · rw [if_pos (Classical.byContradiction (fun q => by rw [if_neg q] at hx1; exact e hx1))] at h
        exact h
    · intro n i x hi hx IH
      have H60 : (qf_F D c i = true → qf_F D i i = false) → wY_stateOf_60 post (wY_stateOf_24 post (nI c) ks os oa ob oc fr di fa wk nx n) (nI c) x (nI i) ks os oa ob oc fr di fa wk nx := by
        intro hci
        refine ⟨qn_in hc, ?_⟩
        rw [qn_cl hc]
        refine qh_YB (hF c hc) hi (fun f => nm_r (nI_1 i) (IH x ⟨?_, lt_s hx.2 hci⟩)) (fun f => ?_)
        · rw [hx.1]
          show _ = if (qp_sp K (qp_W K A B) c || (qe_x (fun d => qf_F D c d && qp_sp K (qp_W K A B) d) i || (qf_F D c i && qp_sp K (qp_W K A B) i))) = true then (1 : Int32) else 0
          rw [f, Bool.false_and, Bool.or_false]
        · refine qp_Y ks os oa ob oc fr di fa wk nx Y G hO hi (fun s0 => br_t rfl (nm_r (nI_1 i) (IH x ⟨?_, lt_s hx.2 hci⟩))) (fun s1 => br_f (by decide) (nm_r (nI_1 i) (IH 1 ⟨?_, lt_s hx.2 hci⟩)))
          · rw [hx.1]
            show _ = if (qp_sp K (qp_W K A B) c || (qe_x (fun d => qf_F D c d && qp_sp K (qp_W K A B) d) i || (qf_F D c i && qp_sp K (qp_W K A B) i))) = true then (1 : Int32) else 0
            rw [s0, Bool.and_false, Bool.or_false]
          · show _ = if (qp_sp K (qp_W K A B) c || (qe_x (fun d => qf_F D c d && qp_sp K (qp_W K A B) d) i || (qf_F D c i && qp_sp K (qp_W K A B) i))) = true then (1 : Int32) else 0
            rw [s1, f, Bool.true_and, Bool.or_true, Bool.or_true, if_pos rfl]
      refine br_f (qn_ge hi) ⟨qn_in hc, ?_⟩
      rw [qn_cl hc]
      refine qh_YB (hF c hc) hi (fun f => H60 (fun z => by rw [f] at z; cases z)) (fun f => ⟨qn_in hi, ?_⟩)
      rw [qn_cl hi]
      exact qh_YB (hF i hi) hi (fun f2 => H60 (fun _ => f2)) (fun f2 => P2 (qf_ci.mpr (Or.inr ⟨i, hi, f, f2⟩)))
  refine qp_Y ks os oa ob oc fr di fa wk nx Y G hO hc (fun s0 => ?_) (fun s1 => ?_)
  · have m := main false s0
    rw [if_neg (by decide)] at m
    exact m
  · have m := main true s1
    rw [if_pos rfl] at m
    exact m
