/-! the questions -/
theorem i_vc_kind {k : Nat} {u : SX} {v : SY} (I : i_Rel k u v) (hk : k + 5 ≤ 2560) (v1 : Int32) : wpX_kind (fun r => wpY_kind (fun r' => r' = r ∧ i_Rel (k + 5) u v) v v1) u v1 := by
  obtain ⟨kd, nm, op, fi, se, th, ow, sh, dr, so, st, vl, dp⟩ := u
  obtain ⟨ks, os, oa, ob, oc, fr, di, fa, wk, nx⟩ := v
  obtain ⟨K, A, B, C, G, H6, X, Z, Y⟩ := I
  have R : i_Rel (k + 5) (kd, nm, op, fi, se, th, ow, sh, dr, so, st, vl, dp) (ks, os, oa, ob, oc, fr, di, fa, wk, nx) := ⟨K, A, B, C, G, H6, X, Z, Y⟩
  unfold wpX_kind wpY_kind
  dsimp only
  by_cases g : qi_g v1
  · obtain ⟨c, hc, rfl⟩ := g
    refine qi_X1 hc (br_f (by decide) ⟨qn_in hc, qi_Y1 hc (br_t rfl ⟨qn_in hc, ?_, R⟩)⟩)
    rw [qn_cl hc, (X c hc).1, (Y c hc).1]
  · exact qi_X0 g (br_t rfl (qi_Y0 g (br_f (by decide) ⟨rfl, R⟩)))
theorem i_vc_state {k : Nat} {u : SX} {v : SY} (I : i_Rel k u v) (hk : k + 5 ≤ 2560) (v1 : Int32) : wpX_state (fun r => wpY_state (fun r' v' => r' = r ∧ i_Rel (k + 5) u v') v v1) u v1 := by
  obtain ⟨kd, nm, op, fi, se, th, ow, sh, dr, so, st, vl, dp⟩ := u
  obtain ⟨ks, os, oa, ob, oc, fr, di, fa, wk, nx⟩ := v
  obtain ⟨K, A, B, C, G, H6, X, Z, Y⟩ := I
  have R : i_Rel (k + 5) (kd, nm, op, fi, se, th, ow, sh, dr, so, st, vl, dp) (ks, os, oa, ob, oc, fr, di, fa, wk, nx) := ⟨K, A, B, C, G, H6, X, Z, Y⟩
  unfold wpX_state wpY_state
  dsimp only
  by_cases g : qi_g v1
  · obtain ⟨c, hc, rfl⟩ := g
    refine qi_X1 hc (br_f (by decide) ⟨qn_in hc, qi_Y1 hc (br_t rfl ?_)⟩)
    refine qt_Y ks os oa ob oc fr di fa wk nx Y G (fun fr' di' fa' hO hD hF => ?_)
    refine qf_Y ks os oa ob oc fr' di' fa' wk nx Y G hO hF hc ⟨?_, K, A, B, C, G, H6, X, Z, Y⟩
    rw [qn_cl hc, Z.2.2.2.1 c hc]
  · exact qi_X0 g (br_t rfl (qi_Y0 g (br_f (by decide) ⟨rfl, R⟩)))
theorem i_vc_value {k : Nat} {u : SX} {v : SY} (I : i_Rel k u v) (hk : k + 5 ≤ 2560) (v1 : Int32) : wpX_value (fun r => wpY_value (fun r' v' => r' = r ∧ i_Rel (k + 5) u v') v v1) u v1 := by
  obtain ⟨kd, nm, op, fi, se, th, ow, sh, dr, so, st, vl, dp⟩ := u
  obtain ⟨ks, os, oa, ob, oc, fr, di, fa, wk, nx⟩ := v
  obtain ⟨K, A, B, C, G, H6, X, Z, Y⟩ := I
  have R : i_Rel (k + 5) (kd, nm, op, fi, se, th, ow, sh, dr, so, st, vl, dp) (ks, os, oa, ob, oc, fr, di, fa, wk, nx) := ⟨K, A, B, C, G, H6, X, Z, Y⟩
  unfold wpX_value wpY_value
  dsimp only
  by_cases g : qi_g v1
  · obtain ⟨c, hc, rfl⟩ := g
    refine qi_X1 hc (br_f (by decide) ⟨qn_in hc, qi_Y1 hc (br_t rfl ?_)⟩)
    refine qv_Y ks os oa ob oc fr di fa wk nx Y G (fun fr' di' fa' wk' nx' hV => ⟨qn_in hc, ?_, K, A, B, C, G, H6, X, Z, Y⟩)
    rw [qn_cl hc]
    exact (hV c hc).trans (Z.2.2.2.2.1 c hc).symm
  · exact qi_X0 g (br_t rfl (qi_Y0 g (br_f (by decide) ⟨rfl, R⟩)))
theorem i_vc_shows {k : Nat} {u : SX} {v : SY} (I : i_Rel k u v) (hk : k + 5 ≤ 2560) (v1 : Int32) : wpX_shows (fun r => wpY_shows (fun r' v' => r' = r ∧ i_Rel (k + 5) u v') v v1) u v1 := by
  obtain ⟨kd, nm, op, fi, se, th, ow, sh, dr, so, st, vl, dp⟩ := u
  obtain ⟨ks, os, oa, ob, oc, fr, di, fa, wk, nx⟩ := v
  obtain ⟨K, A, B, C, G, H6, X, Z, Y⟩ := I
  have R : i_Rel (k + 5) (kd, nm, op, fi, se, th, ow, sh, dr, so, st, vl, dp) (ks, os, oa, ob, oc, fr, di, fa, wk, nx) := ⟨K, A, B, C, G, H6, X, Z, Y⟩
  unfold wpX_shows wpY_shows
  dsimp only
  by_cases g : qi_g v1
  · obtain ⟨c, hc, rfl⟩ := g
    refine qi_X1 hc (br_f (by decide) ⟨qn_in hc, qi_Y1 hc (br_t rfl ?_)⟩)
    refine qs_Y ks os oa ob oc fr di fa wk nx Y G (fun fr' hO => ?_)
    refine qh_S ks os oa ob oc fr' di fa wk nx Y G hO hc ⟨?_, K, A, B, C, G, H6, X, Z, Y⟩
    rw [qn_cl hc, Z.2.1 c hc]
  · exact qi_X0 g (br_t rfl (qi_Y0 g (br_f (by decide) ⟨rfl, R⟩)))
theorem i_vc_owner {k : Nat} {u : SX} {v : SY} (I : i_Rel k u v) (hk : k + 5 ≤ 2560) (v1 : Int32) : wpX_owner (fun r => wpY_owner (fun r' v' => r' = r ∧ i_Rel (k + 5) u v') v v1) u v1 := by
  obtain ⟨kd, nm, op, fi, se, th, ow, sh, dr, so, st, vl, dp⟩ := u
  obtain ⟨ks, os, oa, ob, oc, fr, di, fa, wk, nx⟩ := v
  obtain ⟨K, A, B, C, G, H6, X, Z, Y⟩ := I
  have R : i_Rel (k + 5) (kd, nm, op, fi, se, th, ow, sh, dr, so, st, vl, dp) (ks, os, oa, ob, oc, fr, di, fa, wk, nx) := ⟨K, A, B, C, G, H6, X, Z, Y⟩
  unfold wpX_owner wpY_owner
  dsimp only
  by_cases g : qi_g v1
  · obtain ⟨c, hc, rfl⟩ := g
    refine qi_X1 hc (br_f (by decide) ⟨qn_in hc, qi_Y1 hc (br_t rfl ?_)⟩)
    refine qs_Y ks os oa ob oc fr di fa wk nx Y G (fun fr' hO => ⟨qn_in hc, ?_, K, A, B, C, G, H6, X, Z, Y⟩)
    rw [qn_cl hc]
    exact (hO c hc).trans (Z.1 c hc).symm
  · exact qi_X0 g (br_t rfl (qi_Y0 g (br_f (by decide) ⟨rfl, R⟩)))
theorem i_vc_sources {k : Nat} {u : SX} {v : SY} (I : i_Rel k u v) (hk : k + 5 ≤ 2560) (v1 : Int32) : wpX_sources (fun r => wpY_sources (fun r' v' => r' = r ∧ i_Rel (k + 5) u v') v v1) u v1 := by
  obtain ⟨kd, nm, op, fi, se, th, ow, sh, dr, so, st, vl, dp⟩ := u
  obtain ⟨ks, os, oa, ob, oc, fr, di, fa, wk, nx⟩ := v
  obtain ⟨K, A, B, C, G, H6, X, Z, Y⟩ := I
  have R : i_Rel (k + 5) (kd, nm, op, fi, se, th, ow, sh, dr, so, st, vl, dp) (ks, os, oa, ob, oc, fr, di, fa, wk, nx) := ⟨K, A, B, C, G, H6, X, Z, Y⟩
  unfold wpX_sources wpY_sources
  dsimp only
  by_cases g : qi_g v1
  · obtain ⟨c, hc, rfl⟩ := g
    refine qi_X1 hc (br_f (by decide) ⟨qn_in hc, qi_Y1 hc (br_t rfl ?_)⟩)
    refine qt_Y ks os oa ob oc fr di fa wk nx Y G (fun fr' di' fa' hO hD hF => ⟨qn_in hc, ?_, K, A, B, C, G, H6, X, Z, Y⟩)
    rw [qn_cl hc]
    exact qb_mu (hF c hc) (Z.2.2.1 c hc)
  · exact qi_X0 g (br_t rfl (qi_Y0 g (br_f (by decide) ⟨rfl, R⟩)))
theorem i_vc_readers {k : Nat} {u : SX} {v : SY} (I : i_Rel k u v) (hk : k + 5 ≤ 2560) (v1 : Int32) : wpX_readers (fun r => wpY_readers (fun r' v' => r' = r ∧ i_Rel (k + 5) u v') v v1) u v1 := by
  obtain ⟨kd, nm, op, fi, se, th, ow, sh, dr, so, st, vl, dp⟩ := u
  obtain ⟨ks, os, oa, ob, oc, fr, di, fa, wk, nx⟩ := v
  obtain ⟨K, A, B, C, G, H6, X, Z, Y⟩ := I
  have R : i_Rel (k + 5) (kd, nm, op, fi, se, th, ow, sh, dr, so, st, vl, dp) (ks, os, oa, ob, oc, fr, di, fa, wk, nx) := ⟨K, A, B, C, G, H6, X, Z, Y⟩
  unfold wpX_readers wpY_readers
  dsimp only
  by_cases g : qi_g v1
  · obtain ⟨c, hc, rfl⟩ := g
    refine qi_X1 hc (br_f (by decide) (qR_X kd nm op fi se th ow sh dr so st vl dp Z.2.2.1 hc (fun x hx => qi_Y1 hc (br_t rfl ?_))))
    refine qt_Y ks os oa ob oc fr di fa wk nx Y G (fun fr' di' fa' hO hD hF => ?_)
    exact qR_Y ks os oa ob oc fr' di' fa' wk nx hF hc (fun y hy => ⟨qb_mu hy hx, K, A, B, C, G, H6, X, Z, Y⟩)
  · exact qi_X0 g (br_t rfl (qi_Y0 g (br_f (by decide) ⟨rfl, R⟩)))
theorem i_vc_inState {k : Nat} {u : SX} {v : SY} (I : i_Rel k u v) (hk : k + 5 ≤ 2560) (v1 : Int32) : wpX_inState (fun r => wpY_inState (fun r' v' => r' = r ∧ i_Rel (k + 5) u v') v v1) u v1 := by
  obtain ⟨kd, nm, op, fi, se, th, ow, sh, dr, so, st, vl, dp⟩ := u
  obtain ⟨ks, os, oa, ob, oc, fr, di, fa, wk, nx⟩ := v
  obtain ⟨K, A, B, C, G, H6, X, Z, Y⟩ := I
  have R : i_Rel (k + 5) (kd, nm, op, fi, se, th, ow, sh, dr, so, st, vl, dp) (ks, os, oa, ob, oc, fr, di, fa, wk, nx) := ⟨K, A, B, C, G, H6, X, Z, Y⟩
  unfold wpX_inState wpY_inState
  dsimp only
  refine br_c (fun b => br_t b ⟨rfl, R⟩) (fun b => br_c (fun b2 => ?_) (fun b2 => br_f b (br_f (fun z => b2 ((qn_c4 v1).mp z)) ⟨rfl, R⟩)))
  refine qI_X kd nm op fi se th ow sh dr so st vl dp Z.2.2.2.1 (br_f b (br_t ((qn_c4 v1).mpr b2) ?_))
  refine qt_Y ks os oa ob oc fr di fa wk nx Y G (fun fr' di' fa' hO hD hF => ?_)
  exact qI_Y ks os oa ob oc fr' di' fa' wk nx Y G hO hF ⟨rfl, K, A, B, C, G, H6, X, Z, Y⟩
theorem i_vc_depth {k : Nat} {u : SX} {v : SY} (I : i_Rel k u v) (hk : k + 5 ≤ 2560) (v1 : Int32) : wpX_depth (fun r => wpY_depth (fun r' v' => r' = r ∧ i_Rel (k + 5) u v') v v1) u v1 := by
  obtain ⟨kd, nm, op, fi, se, th, ow, sh, dr, so, st, vl, dp⟩ := u
  obtain ⟨ks, os, oa, ob, oc, fr, di, fa, wk, nx⟩ := v
  obtain ⟨K, A, B, C, G, H6, X, Z, Y⟩ := I
  have R : i_Rel (k + 5) (kd, nm, op, fi, se, th, ow, sh, dr, so, st, vl, dp) (ks, os, oa, ob, oc, fr, di, fa, wk, nx) := ⟨K, A, B, C, G, H6, X, Z, Y⟩
  unfold wpX_depth wpY_depth
  dsimp only
  by_cases g : qi_g v1
  · obtain ⟨c, hc, rfl⟩ := g
    refine qi_X1 hc (br_f (by decide) ⟨qn_in hc, ?_⟩)
    rw [qn_cl hc, Z.2.2.2.1 c hc]
    have sle := qp_st_le (qp_D K A B C (qp_W K A B)) K (qp_W K A B) c
    refine br_c (fun e => qi_Y1 hc (br_t rfl ?_)) (fun e => ⟨qn_in hc, qi_Y1 hc (br_t rfl ?_)⟩)
    · refine qt_Y ks os oa ob oc fr di fa wk nx Y G (fun fr' di' fa' hO hD hF => ?_)
      exact qf_Y ks os oa ob oc fr' di' fa' wk nx Y G hO hF hc (br_t e ⟨rfl, K, A, B, C, G, H6, X, Z, Y⟩)
    · have nc : qf_c (qp_D K A B C (qp_W K A B)) c = false := by
        refine Bool.eq_false_iff.mpr (fun z => e ?_)
        rw [qp_st2.mpr z]; rfl
      refine qt_Y ks os oa ob oc fr di fa wk nx Y G (fun fr' di' fa' hO hD hF => ?_)
      refine qf_Y ks os oa ob oc fr' di' fa' wk nx Y G hO hF hc (br_f e ?_)
      exact qD_Y ks os oa ob oc fr' di' fa' wk nx hD hF hc nc (fun wk' => ⟨(Z.2.2.2.2.2 c hc nc).symm, K, A, B, C, G, H6, X, Z, Y⟩)
  · exact qi_X0 g (br_t rfl (qi_Y0 g (br_f (by decide) ⟨rfl, R⟩)))
theorem i_vc_total {k : Nat} {u : SX} {v : SY} (I : i_Rel k u v) (hk : k + 5 ≤ 2560) (v1 : Int32) : wpX_total (fun r => wpY_total (fun r' v' => r' = r ∧ i_Rel (k + 5) u v') v v1) u v1 := by
  obtain ⟨kd, nm, op, fi, se, th, ow, sh, dr, so, st, vl, dp⟩ := u
  obtain ⟨ks, os, oa, ob, oc, fr, di, fa, wk, nx⟩ := v
  obtain ⟨K, A, B, C, G, H6, X, Z, Y⟩ := I
  have R : i_Rel (k + 5) (kd, nm, op, fi, se, th, ow, sh, dr, so, st, vl, dp) (ks, os, oa, ob, oc, fr, di, fa, wk, nx) := ⟨K, A, B, C, G, H6, X, Z, Y⟩
  unfold wpX_total wpY_total
  dsimp only
  by_cases g : qj_g v1
  · obtain ⟨q, hq, rfl⟩ := g
    obtain ⟨q1, q2, q3⟩ := id hq
    refine qj_X1 hq (br_f (by decide) ⟨qn_36, qn_36, ?_⟩)
    rw [qn_m36 (by omega), qn_d36 (by omega)]
    refine qz_cb (by omega) (by omega) q2 q3 (fun x hx => qt_X kd nm op fi se th ow sh dr so st vl dp hx (qj_Y1 hq (br_t rfl ?_)))
    refine qv_Y ks os oa ob oc fr di fa wk nx Y G (fun fr' di' fa' wk' nx' hV => ?_)
    refine qT_Y ks os oa ob oc fr' di' fa' wk' nx' q1 ⟨?_, K, A, B, C, G, H6, X, Z, Y⟩
    exact qs_c (fun _ _ => rfl) (fun i hi _ => by rw [hV i hi, Z.2.2.2.2.1 i hi])
  · exact qj_X0 g (br_t rfl (qj_Y0 g (br_f (by decide) ⟨rfl, R⟩)))
