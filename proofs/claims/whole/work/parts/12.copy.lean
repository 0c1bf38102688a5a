/-! copy -/
theorem qX_197 {post : Int32 → SX → Prop} (kd nm op fi se th ow sh : Nat → Int32) (dr so : Nat → Int64) (st vl dp : Nat → Int32) {K A B C : Nat → Nat} (X : qx_C kd fi se th K A B C) (G : qp_G K A B C) {t : Nat} (ht : t < 36)
    (h : ∀ (ow' sh' : Nat → Int32) (dr' so' : Nat → Int64) (st' vl' dp' : Nat → Int32), qx_Z K A B C nm op ow' sh' so' st' vl' dp' → post (if K t = 6 then 1 else 0) (kd, nm, op, fi, se, th, ow', sh', dr', so', st', vl', dp')) : wX_copy_197 post (nI t) kd nm op fi se th ow sh dr so st vl dp := by
  have g := (G t ht).1
  unfold wX_copy_197
  refine qx_S kd nm op fi se th ow sh dr so st vl dp X G (fun ow' sh' dr' so' st' vl' dp' Z' => ⟨qn_in ht, ?_⟩)
  have z := h ow' sh' dr' so' st' vl' dp' Z'
  rw [qn_cl ht, (X t ht).1]
  refine br_c (fun e => ?_) (fun e => ?_)
  · rw [if_pos ((qn_eq (b := 6) (by omega) (by omega)).mp e)] at z; exact z
  · rw [if_neg (fun q => e (by rw [q]; rfl))] at z; exact z
theorem qX_147 {post : Int32 → SX → Prop} (kd nm op fi se th ow sh : Nat → Int32) (dr so : Nat → Int64) (st vl dp : Nat → Int32) {K A B C : Nat → Nat} (X : qx_C kd fi se th K A B C) (G : qp_G K A B C) {t : Nat} (ht : t < 36)
    (h : ∀ (ow' sh' : Nat → Int32) (dr' so' : Nat → Int64) (st' vl' dp' : Nat → Int32), qx_Z (qn_u K t 6) (qn_u A t 0) (qn_u B t 0) (qn_u C t 0) nm op ow' sh' so' st' vl' dp' → post 1 ((upd kd t (nI 6)), nm, op, (upd fi t (nI 0)), (upd se t (nI 0)), (upd th t (nI 0)), ow', sh', dr', so', st', vl', dp')) : wX_copy_147 post (nI t) kd nm op fi se th ow sh dr so st vl dp := by
  unfold wX_copy_147
  refine qw_X kd nm op fi se th ow sh dr so st vl dp ht ?_
  refine qX_197 (upd kd t (nI 6)) nm op (upd fi t (nI 0)) (upd se t (nI 0)) (upd th t (nI 0)) ow sh dr so st vl dp (qx_u X t 6 0 0 0) (qg_u G (by omega) (by omega) (by omega) (by omega) (by omega)) ht (fun ow' sh' dr' so' st' vl' dp' Z' => ?_)
  rw [qn_us, if_pos rfl]
  exact h ow' sh' dr' so' st' vl' dp' Z'
theorem qX_129 {post : Int32 → SX → Prop} (kd nm op fi se th ow sh : Nat → Int32) (dr so : Nat → Int64) (st vl dp : Nat → Int32) {K A B C : Nat → Nat} (X : qx_C kd fi se th K A B C) (G : qp_G K A B C) {f t k a b d : Nat} (hf : f < 36) (ht : t < 36) (hk : k ≤ 6) (ha : a < 36) (hb : b < 36) (hd : d < 36) (hg : k = 3 ∨ k = 5 → a / 6 ≤ b / 6 ∧ a % 6 ≤ b % 6)
    (h : ∀ (ow' sh' : Nat → Int32) (dr' so' : Nat → Int64) (st' vl' dp' : Nat → Int32), qx_Z (qn_u K t k) (qn_u A t a) (qn_u B t b) (qn_u C t d) (upd nm t (nm f)) (upd op t (op f)) ow' sh' so' st' vl' dp' → post (if k = 6 then 1 else 0) ((upd kd t (nI k)), (upd nm t (nm f)), (upd op t (op f)), (upd fi t (nI a)), (upd se t (nI b)), (upd th t (nI d)), ow', sh', dr', so', st', vl', dp')) : wX_copy_129 post (nI f) (nI t) (nI k) (nI a) (nI b) (nI d) kd nm op fi se th ow sh dr so st vl dp := by
  unfold wX_copy_129
  refine br_f (qn_m1 (by omega)) (br_f (qn_m1 (by omega)) (br_f (qn_m1 (by omega)) ?_))
  refine qw_X kd nm op fi se th ow sh dr so st vl dp ht ⟨qn_in hf, qn_in ht, nm_r (e' := upd nm t (nm f)) (by rw [qn_cl ht, qn_cl hf]) ⟨qn_in hf, qn_in ht, nm_r (e' := upd op t (op f)) (by rw [qn_cl ht, qn_cl hf]) ?_⟩⟩
  refine qX_197 (upd kd t (nI k)) (upd nm t (nm f)) (upd op t (op f)) (upd fi t (nI a)) (upd se t (nI b)) (upd th t (nI d)) ow sh dr so st vl dp (qx_u X t k a b d) (qg_u G hk ha hb hd hg) ht (fun ow' sh' dr' so' st' vl' dp' Z' => ?_)
  rw [qn_us]
  exact h ow' sh' dr' so' st' vl' dp' Z'
theorem qY_148a {post : Int32 → SY → Prop} (ks os oa ob oc fr : Nat → Int32) (di fa : Nat → Int64) (wk nx : Nat → Int32) {t k : Nat} (ht : t < 36) (hk : k < 6) {o x5 x6 x7 : Int32}
    (h : ∀ os' : Nat → Int32, (∀ j, j ≠ t → os' j = os j) → (k = 2 → os' t = o) → post 0 ((upd ks t (nI k)), os', (upd oa t x5), (upd ob t x6), (upd oc t x7), fr, di, fa, wk, nx)) : wY_copy_148 post (nI t) (nI k) o x5 x6 x7 ks os oa ob oc fr di fa wk nx := by
  have k6 : ¬ nI k = 6 := fun e => by
    have := (qn_eq (b := 6) (by omega) (by omega)).mp e
    omega
  unfold wY_copy_148
  refine br_f k6 (qw_Y ks os oa ob oc fr di fa wk nx ht ?_)
  refine br_c (fun e => ⟨qn_in ht, nm_r (e' := upd (upd os t 0) t o) (by rw [qn_cl ht]) (br_f k6 (h _ (fun j ne => by rw [pk_un ne, pk_un ne]) (fun _ => pk_us)))⟩) (fun e => br_f k6 (h _ (fun j ne => pk_un ne) (fun z => absurd (by rw [z]; rfl) e)))
theorem qY_148b {post : Int32 → SY → Prop} (ks os oa ob oc fr : Nat → Int32) (di fa : Nat → Int64) (wk nx : Nat → Int32) {t : Nat} (ht : t < 36) {o x5 x6 x7 : Int32}
    (h : post 1 ((upd ks t (nI 6)), (upd os t 0), (upd oa t (nI 0)), (upd ob t (nI 0)), (upd oc t (nI 0)), fr, di, fa, wk, nx)) : wY_copy_148 post (nI t) 6 o x5 x6 x7 ks os oa ob oc fr di fa wk nx := by
  unfold wY_copy_148
  exact br_t rfl (qw_Y ks os oa ob oc fr di fa wk nx ht (br_f (by decide) (br_t rfl h)))
theorem i_vc_copy {k : Nat} {u : SX} {v : SY} (I : i_Rel k u v) (hk : k + 5 ≤ 2560) (v1 : Int32) (v2 : Int32) : wpX_copy (fun r u' => wpY_copy (fun r' v' => r' = r ∧ i_Rel (k + 5) u' v') v v1 v2) u v1 v2 := by
  obtain ⟨kd, nm, op, fi, se, th, ow, sh, dr, so, st, vl, dp⟩ := u
  obtain ⟨ks, os, oa, ob, oc, fr, di, fa, wk, nx⟩ := v
  obtain ⟨K, A, B, C, G, H6, X, Z, Y⟩ := I
  have R : i_Rel (k + 5) (kd, nm, op, fi, se, th, ow, sh, dr, so, st, vl, dp) (ks, os, oa, ob, oc, fr, di, fa, wk, nx) := ⟨K, A, B, C, G, H6, X, Z, Y⟩
  by_cases g : qi_g v1
  · obtain ⟨f, hf, rfl⟩ := g
    by_cases g2 : qi_g v2
    · obtain ⟨t, ht, rfl⟩ := g2
      have g := G f hf
      have x := X f hf
      have y := Y f hf
      have e1 : nI t / 6 - nI f / 6 = nI (t / 6) - nI (f / 6) := by rw [qn_d6 (by omega), qn_d6 (by omega)]
      have e2 : (nI t - nI t / 6 * 6) - (nI f - nI f / 6 * 6) = nI (t % 6) - nI (f % 6) := by rw [qn_m6 (by omega), qn_m6 (by omega)]
      have i1 := pk_sub_toInt (a := t / 6) (b := f / 6) (by omega) (by omega)
      have i2 := pk_sub_toInt (a := t % 6) (b := f % 6) (by omega) (by omega)
      have ek : kd (nI f).toNatClampNeg = nI (K f) := by rw [qn_cl hf, x.1]
      have ea : fi (nI f).toNatClampNeg = nI (A f) := by rw [qn_cl hf, x.2.1]
      have eb : se (nI f).toNatClampNeg = nI (B f) := by rw [qn_cl hf, x.2.2.1]
      have ec : th (nI f).toNatClampNeg = nI (C f) := by rw [qn_cl hf, x.2.2.2]
      have yk : ks (nI f).toNatClampNeg = nI (K f) := by rw [qn_cl hf, y.1]
      have yo : os (nI f).toNatClampNeg = os f := by rw [qn_cl hf]
      have ya : oa (nI f).toNatClampNeg = (if K f = 1 then nm f else nI (A f)) := by rw [qn_cl hf, y.2.1]
      have yb : ob (nI f).toNatClampNeg = nI (B f) := by rw [qn_cl hf, y.2.2.1]
      have yc : oc (nI f).toNatClampNeg = nI (C f) := by rw [qn_cl hf, y.2.2.2.1]
      generalize nI (t / 6) - nI (f / 6) = rows at *
      generalize nI (t % 6) - nI (f % 6) = cols at *
      -- X's walk to its joins
      have PX : ∀ post : Int32 → SX → Prop, ((K f = 2 ∨ K f = 3 ∨ K f = 4 ∨ K f = 5) → wX_copy_93 post (nI f) (nI t) rows cols (nI (K f)) (nI (A f)) (nI (B f)) (nI (C f)) kd nm op fi se th ow sh dr so st vl dp) → (¬ (K f = 2 ∨ K f = 3 ∨ K f = 4 ∨ K f = 5) → wX_copy_113 post (nI f) (nI t) rows cols (nI (K f)) (nI (A f)) (nI (B f)) (nI (C f)) kd nm op fi se th ow sh dr so st vl dp) → wpX_copy post (kd, nm, op, fi, se, th, ow, sh, dr, so, st, vl, dp) (nI f) (nI t) := by
        intro post hA hB
        unfold wpX_copy
        dsimp only
        refine qi_X1 hf (br_f (by decide) (qi_X1 ht (br_f (by decide) ?_)))
        refine ⟨qn_6, qn_6, nm_r e1 ⟨qn_6, qn_6, nm_r e2 ⟨qn_in hf, nm_r ek ⟨qn_in hf, nm_r ea ⟨qn_in hf, nm_r eb ⟨qn_in hf, nm_r ec ?_⟩⟩⟩⟩⟩⟩
        refine br_c (fun e => hA (Or.inl ((qn_eq (b := 2) (by omega) (by omega)).mp e))) (fun n2 => br_c (fun e => hA (Or.inr (Or.inl ((qn_eq (b := 3) (by omega) (by omega)).mp e)))) (fun n3 => br_c (fun e => hA (Or.inr (Or.inr (Or.inl ((qn_eq (b := 4) (by omega) (by omega)).mp e))))) (fun n4 => br_c (fun e => hA (Or.inr (Or.inr (Or.inr ((qn_eq (b := 5) (by omega) (by omega)).mp e))))) (fun n5 => hB ?_))))
        rintro (z | z | z | z)
        · exact n2 (by rw [z]; rfl)
        · exact n3 (by rw [z]; rfl)
        · exact n4 (by rw [z]; rfl)
        · exact n5 (by rw [z]; rfl)
      -- Y's walk to its joins
      have PY : ∀ post : Int32 → SY → Prop, ((K f = 2 ∨ K f = 3 ∨ K f = 4 ∨ K f = 5) → wY_copy_130 post (nI t) (nI (K f)) (os f) (qm_v (nI (A f)) rows cols) (qm_v (nI (B f)) rows cols) (if K f = 4 then qm_v (nI (C f)) rows cols else nI (C f)) ks os oa ob oc fr di fa wk nx) → (¬ (K f = 2 ∨ K f = 3 ∨ K f = 4 ∨ K f = 5) → wY_copy_148 post (nI t) (nI (K f)) (os f) (if K f = 1 then nm f else nI (A f)) (nI (B f)) (nI (C f)) ks os oa ob oc fr di fa wk nx) → wpY_copy post (ks, os, oa, ob, oc, fr, di, fa, wk, nx) (nI f) (nI t) := by
        intro post hA hB
        unfold wpY_copy
        dsimp only
        refine qi_Y1 hf (br_t rfl (qi_Y1 ht (br_t rfl ?_)))
        refine ⟨qn_in hf, nm_r yk ⟨qn_in hf, nm_r yo ⟨qn_in hf, nm_r ya ⟨qn_in hf, nm_r yb ⟨qn_in hf, nm_r yc ⟨qn_6, qn_6, nm_r e1 ⟨qn_6, qn_6, nm_r e2 ?_⟩⟩⟩⟩⟩⟩⟩
        refine br_c (fun e => hB ?_) (fun n2 => br_c (fun e => hB ?_) (fun n5 => ?_))
        · have z : K f < 2 := (qn_lt (b := 2) (by omega) (by omega)).mp e
          omega
        · have z : 5 < K f := (qn_lt (a := 5) (by omega) (by omega)).mp e
          omega
        · have z2 : ¬ K f < 2 := fun q => n2 ((qn_lt (b := 2) (by omega) (by omega)).mpr q)
          have z5 : ¬ 5 < K f := fun q => n5 ((qn_lt (a := 5) (by omega) (by omega)).mpr q)
          have h := hA (by omega)
          rw [if_neg (show ¬ K f = 1 by omega)]
          refine qm_Y (qm_Y ?_)
          refine br_c (fun e => ?_) (fun e => ?_)
          · rw [if_pos ((qn_eq (b := 4) (by omega) (by omega)).mp e)] at h
            exact qm_Y h
          · rw [if_neg (fun q => e (by rw [q]; rfl))] at h
            exact h
      by_cases form : K f = 2 ∨ K f = 3 ∨ K f = 4 ∨ K f = 5
      · refine PX _ (fun _ => ?_) (fun z => absurd form z)
        unfold wX_copy_93
        refine qm_X (qm_X ?_)
        have H129 : wX_copy_129 (fun r u' => wpY_copy (fun r' v' => r' = r ∧ i_Rel (k + 5) u' v') (ks, os, oa, ob, oc, fr, di, fa, wk, nx) (nI f) (nI t)) (nI f) (nI t) (nI (K f)) (qm_v (nI (A f)) rows cols) (qm_v (nI (B f)) rows cols) (if K f = 4 then qm_v (nI (C f)) rows cols else nI (C f)) kd nm op fi se th ow sh dr so st vl dp := by
          have broke : ∀ (a b d : Int32), (a < 0 ∨ b < 0 ∨ d < 0) → (qm_v (nI (A f)) rows cols = a) → (qm_v (nI (B f)) rows cols = b) → ((if K f = 4 then qm_v (nI (C f)) rows cols else nI (C f)) = d) → wX_copy_147 (fun r u' => wpY_copy (fun r' v' => r' = r ∧ i_Rel (k + 5) u' v') (ks, os, oa, ob, oc, fr, di, fa, wk, nx) (nI f) (nI t)) (nI t) kd nm op fi se th ow sh dr so st vl dp := by
            intro a b d neg ha hb hd
            refine qX_147 kd nm op fi se th ow sh dr so st vl dp X G ht (fun ow' sh' dr' so' st' vl' dp' Z' => ?_)
            refine PY _ (fun _ => ?_) (fun z => absurd form z)
            rw [ha, hb, hd]
            have fin : wY_copy_148 (fun r' v' => r' = 1 ∧ i_Rel (k + 5) ((upd kd t (nI 6)), nm, op, (upd fi t (nI 0)), (upd se t (nI 0)), (upd th t (nI 0)), ow', sh', dr', so', st', vl', dp') v') (nI t) 6 (os f) a b d ks os oa ob oc fr di fa wk nx := by
              have Y' := qy_u Y t 6 0 0 0 (os' := upd os t 0) (nm' := nm) (op' := op) (x := nI 0) (by rw [if_neg (by decide)]) (fun j e => rfl) (fun j e => rfl) (fun j e => pk_un e) (fun z => by omega)
              exact qY_148b ks os oa ob oc fr di fa wk nx ht ⟨rfl, _, _, _, _, qg_u G (by omega) (by omega) (by omega) (by omega) (by omega), q6_u H6 (fun _ => ⟨rfl, rfl, rfl⟩), qx_u X t 6 0 0 0, Z', Y'⟩
            refine br_c (fun _ => fin) (fun n1 => br_c (fun _ => fin) (fun n2 => br_c (fun n3 => ?_) (fun _ => fin)))
            rcases neg with z | z | z
            · exact absurd z n1
            · exact absurd z n2
            · exact absurd n3 (Int32.not_le.mpr z)
          have m1 : (-1 : Int32) < 0 := by decide
          rcases qm_ok (a := A f) g.2.1 i1 i2 (by omega) (by omega) with ⟨a, ha, wa, a1, a2⟩ | ⟨wa, _⟩
          · rcases qm_ok (a := B f) g.2.2.1 i1 i2 (by omega) (by omega) with ⟨b, hb, wb, b1, b2⟩ | ⟨wb, _⟩
            · have third : (∃ d : Nat, d < 36 ∧ (if K f = 4 then qm_v (nI (C f)) rows cols else nI (C f)) = nI d) ∨ (if K f = 4 then qm_v (nI (C f)) rows cols else nI (C f)) = -1 := by
                by_cases k4 : K f = 4
                · rw [if_pos k4]
                  rcases qm_ok (a := C f) g.2.2.2.1 i1 i2 (by omega) (by omega) with ⟨d, hd, wd, _⟩ | ⟨wd, _⟩
                  · exact Or.inl ⟨d, hd, wd⟩
                  · exact Or.inr wd
                · rw [if_neg k4]
                  exact Or.inl ⟨C f, g.2.2.2.1, rfl⟩
              rcases third with ⟨d, hd, wd⟩ | wd
              · have PY' := fun post => PY post
                rw [wa, wb, wd] at PY' ⊢
                have hg : K f = 3 ∨ K f = 5 → a / 6 ≤ b / 6 ∧ a % 6 ≤ b % 6 := by
                  intro z
                  have g5 := g.2.2.2.2 z
                  omega
                have n6 : K f ≠ 6 := by omega
                refine qX_129 kd nm op fi se th ow sh dr so st vl dp X G hf ht g.1 ha hb hd hg (fun ow' sh' dr' so' st' vl' dp' Z' => ?_)
                rw [if_neg n6]
                refine PY' _ (fun _ => ?_) (fun z => absurd form z)
                refine br_f (nI_pos (by omega)) (br_f (nI_pos (by omega)) (br_t (nI_pos' (by omega)) ?_))
                refine qY_148a ks os oa ob oc fr di fa wk nx ht (by omega) (fun os' h1 h2 => ⟨rfl, _, _, _, _, qg_u G g.1 ha hb hd hg, q6_u H6 (fun z => absurd z n6), qx_u X t (K f) a b d, Z', ?_⟩)
                exact qy_u Y t (K f) a b d (os' := os') (nm' := upd nm t (nm f)) (op' := upd op t (op f)) (x := nI a) (by rw [if_neg (by omega)]) (fun j e => pk_un e) (fun j e => pk_un e) h1 (fun z => by rw [h2 z, pk_us]; exact y.2.2.2.2 z)
              · have B147 := broke _ _ _ (Or.inr (Or.inr (by rw [wd]; exact m1))) rfl rfl rfl
                rw [wa, wb, wd]
                exact br_f (qn_m1 (by omega)) (br_f (qn_m1 (by omega)) (br_t rfl B147))
            · have B147 := broke _ _ _ (Or.inr (Or.inl (by rw [wb]; exact m1))) rfl rfl rfl
              rw [wa, wb]
              exact br_f (qn_m1 (by omega)) (br_t rfl B147)
          · have B147 := broke _ _ _ (Or.inl (by rw [wa]; exact m1)) rfl rfl rfl
            rw [wa]
            exact br_t rfl B147
        refine br_c (fun e => ?_) (fun e => ?_)
        · rw [if_pos ((qn_eq (b := 4) (by omega) (by omega)).mp e)] at H129
          exact qm_X H129
        · rw [if_neg (fun q => e (by rw [q]; rfl))] at H129
          exact H129
      · refine PX _ (fun z => absurd z form) (fun _ => ?_)
        refine br_f (fun e => form (Or.inr (Or.inr (Or.inl ((qn_eq (b := 4) (by omega) (by omega)).mp e))))) ?_
        have ng : K f = 3 ∨ K f = 5 → A f / 6 ≤ B f / 6 ∧ A f % 6 ≤ B f % 6 := g.2.2.2.2
        refine qX_129 kd nm op fi se th ow sh dr so st vl dp X G hf ht g.1 g.2.1 g.2.2.1 g.2.2.2.1 ng (fun ow' sh' dr' so' st' vl' dp' Z' => ?_)
        refine PY _ (fun z => absurd z form) (fun _ => ?_)
        by_cases k6 : K f = 6
        · have h6 := H6 f hf k6
          have Y' := qy_u Y t 6 0 0 0 (os' := upd os t 0) (nm' := upd nm t (nm f)) (op' := upd op t (op f)) (x := nI 0) (by rw [if_neg (by decide)]) (fun j e => pk_un e) (fun j e => pk_un e) (fun j e => pk_un e) (fun z => by omega)
          rw [k6, h6.1, h6.2.1, h6.2.2] at Z' ⊢
          exact qY_148b ks os oa ob oc fr di fa wk nx ht ⟨rfl, _, _, _, _, qg_u G (by omega) (by omega) (by omega) (by omega) (by omega), q6_u H6 (fun _ => ⟨rfl, rfl, rfl⟩), qx_u X t 6 0 0 0, Z', Y'⟩
        · rw [if_neg k6]
          refine qY_148a ks os oa ob oc fr di fa wk nx ht (by omega) (fun os' h1 h2 => ⟨rfl, _, _, _, _, qg_u G g.1 g.2.1 g.2.2.1 g.2.2.2.1 ng, q6_u H6 (fun z => absurd z k6), qx_u X t (K f) (A f) (B f) (C f), Z', ?_⟩)
          exact qy_u Y t (K f) (A f) (B f) (C f) (os' := os') (nm' := upd nm t (nm f)) (op' := upd op t (op f)) (by rw [pk_us]) (fun j e => pk_un e) (fun j e => pk_un e) h1 (fun z => absurd (Or.inl z) form)
    · unfold wpX_copy
      dsimp only
      refine qi_X1 hf (br_f (by decide) (qi_X0 g2 (br_t rfl ?_)))
      unfold wpY_copy
      exact qi_Y1 hf (br_t rfl (qi_Y0 g2 (br_f (by decide) ⟨rfl, R⟩)))
  · unfold wpX_copy
    dsimp only
    refine qi_X0 g (br_t rfl ?_)
    unfold wpY_copy
    exact qi_Y0 g (br_f (by decide) ⟨rfl, R⟩)
