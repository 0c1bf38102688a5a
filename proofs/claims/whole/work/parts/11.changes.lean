/-! the changes: number, pair, sum, choice, spread, erase -/
theorem i_vc_number {k : Nat} {u : SX} {v : SY} (I : i_Rel k u v) (hk : k + 5 ≤ 2560) (v1 : Int32) (v2 : Int32) : wpX_number (fun r u' => wpY_number (fun r' v' => r' = r ∧ i_Rel (k + 5) u' v') v v1 v2) u v1 v2 := by
  obtain ⟨kd, nm, op, fi, se, th, ow, sh, dr, so, st, vl, dp⟩ := u
  obtain ⟨ks, os, oa, ob, oc, fr, di, fa, wk, nx⟩ := v
  obtain ⟨K, A, B, C, G, H6, X, Z, Y⟩ := I
  have R : i_Rel (k + 5) (kd, nm, op, fi, se, th, ow, sh, dr, so, st, vl, dp) (ks, os, oa, ob, oc, fr, di, fa, wk, nx) := ⟨K, A, B, C, G, H6, X, Z, Y⟩
  unfold wpX_number wpY_number
  dsimp only
  by_cases g : qi_g v1
  · obtain ⟨c, hc, rfl⟩ := g
    refine qi_X1 hc (br_f (by decide) ?_)
    by_cases b1 : v2 < -1000
    · exact br_t b1 (qi_Y1 hc (br_t rfl (br_t b1 ⟨rfl, R⟩)))
    · refine br_f b1 ?_
      by_cases b2 : v2 ≤ 1000
      · refine br_t b2 (qw_X kd nm op fi se th ow sh dr so st vl dp hc ⟨qn_in hc, nm_r (e' := upd nm c v2) (by rw [qn_cl hc]) ?_⟩)
        have G' := qg_u G (c := c) (k := 1) (a := 0) (b := 0) (d := 0) (by omega) (by omega) (by omega) (by omega) (by omega)
        have X' := qx_u X c 1 0 0 0
        refine qx_S (upd kd c (nI 1)) (upd nm c v2) op (upd fi c (nI 0)) (upd se c (nI 0)) (upd th c (nI 0)) ow sh dr so st vl dp X' G' (fun ow' sh' dr' so' st' vl' dp' Z' => ?_)
        have Y' := qy_u Y c 1 0 0 0 (os' := upd os c 0) (nm' := upd nm c v2) (op' := op) (x := v2) (by rw [if_pos rfl, pk_us]) (fun j e => pk_un e) (fun j e => rfl) (fun j e => pk_un e) (fun z => by omega)
        exact qi_Y1 hc (br_t rfl (br_f b1 (br_t b2 (qw_Y ks os oa ob oc fr di fa wk nx hc ⟨rfl, _, _, _, _, G', q6_u H6 (by omega), X', Z', Y'⟩))))
      · exact br_f b2 (qi_Y1 hc (br_t rfl (br_f b1 (br_f b2 ⟨rfl, R⟩))))
  · exact qi_X0 g (br_t rfl (qi_Y0 g (br_f (by decide) ⟨rfl, R⟩)))
theorem i_vc_pair {k : Nat} {u : SX} {v : SY} (I : i_Rel k u v) (hk : k + 5 ≤ 2560) (v1 : Int32) (v2 : Int32) (v3 : Int32) (v4 : Int32) : wpX_pair (fun r u' => wpY_pair (fun r' v' => r' = r ∧ i_Rel (k + 5) u' v') v v1 v2 v3 v4) u v1 v2 v3 v4 := by
  obtain ⟨kd, nm, op, fi, se, th, ow, sh, dr, so, st, vl, dp⟩ := u
  obtain ⟨ks, os, oa, ob, oc, fr, di, fa, wk, nx⟩ := v
  obtain ⟨K, A, B, C, G, H6, X, Z, Y⟩ := I
  have R : i_Rel (k + 5) (kd, nm, op, fi, se, th, ow, sh, dr, so, st, vl, dp) (ks, os, oa, ob, oc, fr, di, fa, wk, nx) := ⟨K, A, B, C, G, H6, X, Z, Y⟩
  unfold wpX_pair wpY_pair
  dsimp only
  by_cases g : qi_g v1
  · obtain ⟨c, hc, rfl⟩ := g
    refine qi_X1 hc (br_f (by decide) ?_)
    by_cases b1 : v2 < 0
    · exact br_t b1 (qi_Y1 hc (br_t rfl (br_t b1 ⟨rfl, R⟩)))
    · refine br_f b1 ?_
      by_cases b2 : v2 < 5
      · have b2' := (qn_c5 v2).mpr b2
        refine br_t b2 ?_
        by_cases ga : qi_g v3
        · obtain ⟨a, ha, rfl⟩ := ga
          refine qi_X1 ha (br_f (by decide) ?_)
          by_cases gb : qi_g v4
          · obtain ⟨b, hb, rfl⟩ := gb
            refine qi_X1 hb (br_f (by decide) ?_)
            refine qw_X kd nm op fi se th ow sh dr so st vl dp hc ⟨qn_in hc, nm_r (e' := upd op c v2) (by rw [qn_cl hc]) ?_⟩
            have G' := qg_u G (c := c) (k := 2) (a := a) (b := b) (d := 0) (by omega) ha hb (by omega) (by omega)
            have X' := qx_u X c 2 a b 0
            refine qx_S (upd kd c (nI 2)) nm (upd op c v2) (upd fi c (nI a)) (upd se c (nI b)) (upd th c (nI 0)) ow sh dr so st vl dp X' G' (fun ow' sh' dr' so' st' vl' dp' Z' => ?_)
            have Y' := qy_u Y c 2 a b 0 (os' := upd (upd os c 0) c v2) (nm' := nm) (op' := upd op c v2) (x := nI a) (by rw [if_neg (by decide)]) (fun j e => rfl) (fun j e => pk_un e) (fun j e => by rw [pk_un e, pk_un e]) (fun z => by rw [pk_us, pk_us])
            exact qi_Y1 hc (br_t rfl (br_f b1 (br_t b2' (qi_Y1 ha (br_t rfl (qi_Y1 hb (br_t rfl (qw_Y ks os oa ob oc fr di fa wk nx hc ⟨qn_in hc, nm_r (e' := upd (upd os c 0) c v2) (by rw [qn_cl hc]) ⟨rfl, _, _, _, _, G', q6_u H6 (by omega), X', Z', Y'⟩⟩))))))))
          · exact qi_X0 gb (br_t rfl (qi_Y1 hc (br_t rfl (br_f b1 (br_t b2' (qi_Y1 ha (br_t rfl (qi_Y0 gb (br_f (by decide) ⟨rfl, R⟩)))))))))
        · exact qi_X0 ga (br_t rfl (qi_Y1 hc (br_t rfl (br_f b1 (br_t b2' (qi_Y0 ga (br_f (by decide) ⟨rfl, R⟩)))))))
      · exact br_f b2 (qi_Y1 hc (br_t rfl (br_f b1 (br_f (fun z => b2 ((qn_c5 v2).mp z)) ⟨rfl, R⟩))))
  · exact qi_X0 g (br_t rfl (qi_Y0 g (br_f (by decide) ⟨rfl, R⟩)))
theorem i_vc_sum {k : Nat} {u : SX} {v : SY} (I : i_Rel k u v) (hk : k + 5 ≤ 2560) (v1 : Int32) (v2 : Int32) : wpX_sum (fun r u' => wpY_sum (fun r' v' => r' = r ∧ i_Rel (k + 5) u' v') v v1 v2) u v1 v2 := by
  obtain ⟨kd, nm, op, fi, se, th, ow, sh, dr, so, st, vl, dp⟩ := u
  obtain ⟨ks, os, oa, ob, oc, fr, di, fa, wk, nx⟩ := v
  obtain ⟨K, A, B, C, G, H6, X, Z, Y⟩ := I
  have R : i_Rel (k + 5) (kd, nm, op, fi, se, th, ow, sh, dr, so, st, vl, dp) (ks, os, oa, ob, oc, fr, di, fa, wk, nx) := ⟨K, A, B, C, G, H6, X, Z, Y⟩
  unfold wpX_sum wpY_sum
  dsimp only
  by_cases g : qi_g v1
  · obtain ⟨c, hc, rfl⟩ := g
    refine qi_X1 hc (br_f (by decide) ?_)
    by_cases gq : qj_g v2
    · obtain ⟨q, hq, rfl⟩ := gq
      obtain ⟨q1, q2, q3⟩ := id hq
      refine qj_X1 hq (br_f (by decide) ⟨qn_36, qn_36, ?_⟩)
      rw [qn_m36 (by omega), qn_d36 (by omega)]
      refine qw_X kd nm op fi se th ow sh dr so st vl dp hc ?_
      have G' := qg_u G (c := c) (k := 3) (a := q / 36) (b := q % 36) (d := 0) (by omega) (by omega) (by omega) (by omega) (fun _ => ⟨q2, q3⟩)
      have X' := qx_u X c 3 (q / 36) (q % 36) 0
      refine qx_S (upd kd c (nI 3)) nm op (upd fi c (nI (q / 36))) (upd se c (nI (q % 36))) (upd th c (nI 0)) ow sh dr so st vl dp X' G' (fun ow' sh' dr' so' st' vl' dp' Z' => ?_)
      refine qx_h (upd kd c (nI 3)) nm op (upd fi c (nI (q / 36))) (upd se c (nI (q % 36))) (upd th c (nI 0)) ow' sh' dr' so' st' vl' dp' X' G' hc (Or.inl qn_us) ?_
      refine qx_w (upd kd c (nI 3)) nm op (upd fi c (nI (q / 36))) (upd se c (nI (q % 36))) (upd th c (nI 0)) ow' sh' dr' so' st' vl' dp' X' G' hc (Or.inl qn_us) ?_
      refine qi_Y1 hc (br_t rfl (qj_Y1 hq (br_t rfl ⟨qn_36, qn_36, qw_Y ks os oa ob oc fr di fa wk nx hc (qN_Y (upd ks c 3) (upd os c 0) (upd oa c (nI (q / 36))) (upd ob c (nI (q % 36))) (upd oc c 0) fr di fa wk nx q1 ⟨?_, _, _, _, _, G', q6_u H6 (by omega), X', Z', ?_⟩)⟩)))
      · rw [qN_c (q / 36) (by omega) (q % 36) (by omega) q2 q3, qn_us, qn_us, pk_mul]
      · exact qy_u Y c 3 (q / 36) (q % 36) 0 (by rw [if_neg (by decide)]) (fun j e => rfl) (fun j e => rfl) (fun j e => pk_un e) (fun z => by omega)
    · exact qj_X0 gq (br_t rfl (qi_Y1 hc (br_t rfl (qj_Y0 gq (br_f (by decide) ⟨rfl, R⟩)))))
  · exact qi_X0 g (br_t rfl (qi_Y0 g (br_f (by decide) ⟨rfl, R⟩)))
theorem i_vc_choice {k : Nat} {u : SX} {v : SY} (I : i_Rel k u v) (hk : k + 5 ≤ 2560) (v1 : Int32) (v2 : Int32) (v3 : Int32) (v4 : Int32) : wpX_choice (fun r u' => wpY_choice (fun r' v' => r' = r ∧ i_Rel (k + 5) u' v') v v1 v2 v3 v4) u v1 v2 v3 v4 := by
  obtain ⟨kd, nm, op, fi, se, th, ow, sh, dr, so, st, vl, dp⟩ := u
  obtain ⟨ks, os, oa, ob, oc, fr, di, fa, wk, nx⟩ := v
  obtain ⟨K, A, B, C, G, H6, X, Z, Y⟩ := I
  have R : i_Rel (k + 5) (kd, nm, op, fi, se, th, ow, sh, dr, so, st, vl, dp) (ks, os, oa, ob, oc, fr, di, fa, wk, nx) := ⟨K, A, B, C, G, H6, X, Z, Y⟩
  unfold wpX_choice wpY_choice
  dsimp only
  by_cases g : qi_g v1
  · obtain ⟨c, hc, rfl⟩ := g
    refine qi_X1 hc (br_f (by decide) ?_)
    by_cases ga : qi_g v2
    · obtain ⟨a, ha, rfl⟩ := ga
      refine qi_X1 ha (br_f (by decide) ?_)
      by_cases gb : qi_g v3
      · obtain ⟨b, hb, rfl⟩ := gb
        refine qi_X1 hb (br_f (by decide) ?_)
        by_cases gd : qi_g v4
        · obtain ⟨d, hd, rfl⟩ := gd
          refine qi_X1 hd (br_f (by decide) ?_)
          refine qw_X kd nm op fi se th ow sh dr so st vl dp hc ?_
          have G' := qg_u G (c := c) (k := 4) (a := a) (b := b) (d := d) (by omega) ha hb hd (by omega)
          have X' := qx_u X c 4 a b d
          refine qx_S (upd kd c (nI 4)) nm op (upd fi c (nI a)) (upd se c (nI b)) (upd th c (nI d)) ow sh dr so st vl dp X' G' (fun ow' sh' dr' so' st' vl' dp' Z' => ?_)
          refine qi_Y1 hc (br_t rfl (qi_Y1 ha (br_t rfl (qi_Y1 hb (br_t rfl (qi_Y1 hd (br_t rfl (qw_Y ks os oa ob oc fr di fa wk nx hc ⟨rfl, _, _, _, _, G', q6_u H6 (by omega), X', Z', ?_⟩))))))))
          exact qy_u Y c 4 a b d (by rw [if_neg (by decide)]) (fun j e => rfl) (fun j e => rfl) (fun j e => pk_un e) (fun z => by omega)
        · exact qi_X0 gd (br_t rfl (qi_Y1 hc (br_t rfl (qi_Y1 ha (br_t rfl (qi_Y1 hb (br_t rfl (qi_Y0 gd (br_f (by decide) ⟨rfl, R⟩)))))))))
      · exact qi_X0 gb (br_t rfl (qi_Y1 hc (br_t rfl (qi_Y1 ha (br_t rfl (qi_Y0 gb (br_f (by decide) ⟨rfl, R⟩)))))))
    · exact qi_X0 ga (br_t rfl (qi_Y1 hc (br_t rfl (qi_Y0 ga (br_f (by decide) ⟨rfl, R⟩)))))
  · exact qi_X0 g (br_t rfl (qi_Y0 g (br_f (by decide) ⟨rfl, R⟩)))
theorem i_vc_spread {k : Nat} {u : SX} {v : SY} (I : i_Rel k u v) (hk : k + 5 ≤ 2560) (v1 : Int32) (v2 : Int32) : wpX_spread (fun r u' => wpY_spread (fun r' v' => r' = r ∧ i_Rel (k + 5) u' v') v v1 v2) u v1 v2 := by
  obtain ⟨kd, nm, op, fi, se, th, ow, sh, dr, so, st, vl, dp⟩ := u
  obtain ⟨ks, os, oa, ob, oc, fr, di, fa, wk, nx⟩ := v
  obtain ⟨K, A, B, C, G, H6, X, Z, Y⟩ := I
  have R : i_Rel (k + 5) (kd, nm, op, fi, se, th, ow, sh, dr, so, st, vl, dp) (ks, os, oa, ob, oc, fr, di, fa, wk, nx) := ⟨K, A, B, C, G, H6, X, Z, Y⟩
  unfold wpX_spread
  dsimp only
  by_cases g : qi_g v1
  · obtain ⟨c, hc, rfl⟩ := g
    refine qi_X1 hc (br_f (by decide) ?_)
    by_cases gq : qj_g v2
    · obtain ⟨q, hq, rfl⟩ := gq
      obtain ⟨q1, q2, q3⟩ := id hq
      refine qj_X1 hq (br_f (by decide) ⟨qn_36, qn_36, ?_⟩)
      rw [qn_m36 (by omega), qn_d36 (by omega)]
      refine qw_X kd nm op fi se th ow sh dr so st vl dp hc ?_
      have G' := qg_u G (c := c) (k := 5) (a := q / 36) (b := q % 36) (d := 0) (by omega) (by omega) (by omega) (by omega) (fun _ => ⟨q2, q3⟩)
      have X' := qx_u X c 5 (q / 36) (q % 36) 0
      have Y' := qy_u Y c 5 (q / 36) (q % 36) 0 (os' := upd os c 0) (nm' := nm) (op' := op) (x := nI (q / 36)) (by rw [if_neg (by decide)]) (fun j e => rfl) (fun j e => rfl) (fun j e => pk_un e) (fun z => by omega)
      refine qx_S (upd kd c (nI 5)) nm op (upd fi c (nI (q / 36))) (upd se c (nI (q % 36))) (upd th c (nI 0)) ow sh dr so st vl dp X' G' (fun ow' sh' dr' so' st' vl' dp' Z' => ⟨qn_in hc, ?_⟩)
      rw [qn_cl hc]
      have HY : ∀ (r : Int32) (Q : Int32 → SY → Prop), (∀ fr' : Nat → Int32, fr' c = ow' c → (fr' c = nI c → Q 1 ((upd ks c (nI 5)), (upd os c 0), (upd oa c (nI (q / 36))), (upd ob c (nI (q % 36))), (upd oc c (nI 0)), fr', di, fa, wk, nx)) ∧ (¬ fr' c = nI c → Q 0 ((upd ks c (nI 5)), (upd os c 0), (upd oa c (nI (q / 36))), (upd ob c (nI (q % 36))), (upd oc c (nI 0)), fr', di, fa, wk, nx))) → wpY_spread Q (ks, os, oa, ob, oc, fr, di, fa, wk, nx) (nI c) (nI q) := by
        intro r Q hQ
        unfold wpY_spread
        dsimp only
        refine qi_Y1 hc (br_t rfl (qj_Y1 hq (br_t rfl ⟨qn_36, qn_36, ?_⟩)))
        rw [qn_m36 (by omega), qn_d36 (by omega)]
        refine qw_Y ks os oa ob oc fr di fa wk nx hc ?_
        refine qs_Y (upd ks c (nI 5)) (upd os c 0) (upd oa c (nI (q / 36))) (upd ob c (nI (q % 36))) (upd oc c (nI 0)) fr di fa wk nx Y' G' (fun fr' hf => ⟨qn_in hc, ?_⟩)
        rw [qn_cl hc]
        exact hQ fr' (by rw [hf c hc, Z'.1 c hc])
      refine br_c (fun e => HY 1 _ (fun fr' hf => br_t (by rw [hf]; exact e) ⟨rfl, _, _, _, _, G', q6_u H6 (by omega), X', Z', Y'⟩)) (fun e => HY 0 _ (fun fr' hf => br_f (by rw [hf]; exact e) ⟨rfl, _, _, _, _, G', q6_u H6 (by omega), X', Z', Y'⟩))
    · refine qj_X0 gq (br_t rfl ?_)
      unfold wpY_spread
      exact qi_Y1 hc (br_t rfl (qj_Y0 gq (br_f (by decide) ⟨rfl, R⟩)))
  · refine qi_X0 g (br_t rfl ?_)
    unfold wpY_spread
    exact qi_Y0 g (br_f (by decide) ⟨rfl, R⟩)
theorem i_vc_erase {k : Nat} {u : SX} {v : SY} (I : i_Rel k u v) (hk : k + 5 ≤ 2560) (v1 : Int32) : wpX_erase (fun r u' => wpY_erase (fun r' v' => r' = r ∧ i_Rel (k + 5) u' v') v v1) u v1 := by
  obtain ⟨kd, nm, op, fi, se, th, ow, sh, dr, so, st, vl, dp⟩ := u
  obtain ⟨ks, os, oa, ob, oc, fr, di, fa, wk, nx⟩ := v
  obtain ⟨K, A, B, C, G, H6, X, Z, Y⟩ := I
  have R : i_Rel (k + 5) (kd, nm, op, fi, se, th, ow, sh, dr, so, st, vl, dp) (ks, os, oa, ob, oc, fr, di, fa, wk, nx) := ⟨K, A, B, C, G, H6, X, Z, Y⟩
  unfold wpX_erase wpY_erase
  dsimp only
  by_cases g : qi_g v1
  · obtain ⟨c, hc, rfl⟩ := g
    have gK := (G c hc).1
    refine qi_X1 hc (br_f (by decide) ⟨qn_in hc, nm_r (e' := nI (K c)) (by rw [qn_cl hc, (X c hc).1]) ?_⟩)
    refine qw_X kd nm op fi se th ow sh dr so st vl dp hc ?_
    have G' := qg_u G (c := c) (k := 0) (a := 0) (b := 0) (d := 0) (by omega) (by omega) (by omega) (by omega) (by omega)
    have X' := qx_u X c 0 0 0 0
    have Y' := qy_u Y c 0 0 0 0 (os' := upd os c 0) (nm' := nm) (op' := op) (x := nI 0) (by rw [if_neg (by decide)]) (fun j e => rfl) (fun j e => rfl) (fun j e => pk_un e) (fun z => by omega)
    refine qx_S (upd kd c (nI 0)) nm op (upd fi c (nI 0)) (upd se c (nI 0)) (upd th c (nI 0)) ow sh dr so st vl dp X' G' (fun ow' sh' dr' so' st' vl' dp' Z' => ?_)
    refine br_c (fun e => ?_) (fun e => ?_)
    · refine qi_Y1 hc (br_t rfl ⟨qn_in hc, nm_r (e' := nI (K c)) (by rw [qn_cl hc, (Y c hc).1]) (qw_Y ks os oa ob oc fr di fa wk nx hc (br_t e ⟨rfl, _, _, _, _, G', q6_u H6 (by omega), X', Z', Y'⟩))⟩)
    · refine qi_Y1 hc (br_t rfl ⟨qn_in hc, nm_r (e' := nI (K c)) (by rw [qn_cl hc, (Y c hc).1]) (qw_Y ks os oa ob oc fr di fa wk nx hc (br_f e ⟨rfl, _, _, _, _, G', q6_u H6 (by omega), X', Z', Y'⟩))⟩)
  · exact qi_X0 g (br_t rfl (qi_Y0 g (br_f (by decide) ⟨rfl, R⟩)))
