/-! the relation, and what a change of one cell does to it -/
def qn_u (f : Nat → Nat) (c x : Nat) : Nat → Nat := fun j => if j = c then x else f j
theorem qn_us {f : Nat → Nat} {c x : Nat} : qn_u f c x c = x := if_pos rfl
theorem qn_un {f : Nat → Nat} {c x j : Nat} (h : j ≠ c) : qn_u f c x j = f j := if_neg h
/-- a broken content names nothing -/
def qp_6 (K A B C : Nat → Nat) : Prop := ∀ j, j < 36 → K j = 6 → A j = 0 ∧ B j = 0 ∧ C j = 0
/-- the relation: both sides hold the same contents; X has worked out what follows from them -/
def i_Rel (_ : Nat) (u : SX) (v : SY) : Prop := match u, v with
  | (kd, nm, op, fi, se, th, ow, sh, dr, so, st, vl, dp), (ks, os, oa, ob, oc, fr, di, fa, wk, nx) => ∃ K A B C : Nat → Nat, qp_G K A B C ∧ qp_6 K A B C ∧ qx_C kd fi se th K A B C ∧ qx_Z K A B C nm op ow sh so st vl dp ∧ qy_C ks os oa ob oc K A B C nm op
theorem i_up {k : Nat} {u : SX} {v : SY} (h : i_Rel k u v) : i_Rel (k + 5) u v := h
theorem qw_X {post : SX → Prop} (kd nm op fi se th ow sh : Nat → Int32) (dr so : Nat → Int64) (st vl dp : Nat → Int32) {c : Nat} (hc : c < 36) {p1 p2 p3 p4 : Int32} (h : post ((upd kd c p1), nm, op, (upd fi c p2), (upd se c p3), (upd th c p4), ow, sh, dr, so, st, vl, dp)) : wpX_write post (kd, nm, op, fi, se, th, ow, sh, dr, so, st, vl, dp) (nI c) p1 p2 p3 p4 := by
  refine ⟨qn_in hc, nm_e ⟨qn_in hc, nm_e ⟨qn_in hc, nm_e ⟨qn_in hc, nm_e ?_⟩⟩⟩⟩
  rw [qn_cl hc]
  exact h
theorem qw_Y {post : SY → Prop} (ks os oa ob oc fr : Nat → Int32) (di fa : Nat → Int64) (wk nx : Nat → Int32) {c : Nat} (hc : c < 36) {p1 p2 p3 p4 : Int32} (h : post ((upd ks c p1), (upd os c 0), (upd oa c p2), (upd ob c p3), (upd oc c p4), fr, di, fa, wk, nx)) : wpY_fill post (ks, os, oa, ob, oc, fr, di, fa, wk, nx) (nI c) p1 p2 p3 p4 := by
  refine ⟨qn_in hc, nm_e ⟨qn_in hc, nm_e ⟨qn_in hc, nm_e ⟨qn_in hc, nm_e ⟨qn_in hc, nm_e ?_⟩⟩⟩⟩⟩
  rw [qn_cl hc]
  exact h
theorem qg_u {K A B C : Nat → Nat} (G : qp_G K A B C) {c k a b d : Nat} (hk : k ≤ 6) (ha : a < 36) (hb : b < 36) (hd : d < 36) (hg : k = 3 ∨ k = 5 → a / 6 ≤ b / 6 ∧ a % 6 ≤ b % 6) : qp_G (qn_u K c k) (qn_u A c a) (qn_u B c b) (qn_u C c d) := by
  intro j hj
  by_cases e : j = c
  · subst e; rw [qn_us, qn_us, qn_us, qn_us]; exact ⟨hk, ha, hb, hd, hg⟩
  · rw [qn_un e, qn_un e, qn_un e, qn_un e]; exact G j hj
theorem q6_u {K A B C : Nat → Nat} (H : qp_6 K A B C) {c k a b d : Nat} (h6 : k = 6 → a = 0 ∧ b = 0 ∧ d = 0) : qp_6 (qn_u K c k) (qn_u A c a) (qn_u B c b) (qn_u C c d) := by
  intro j hj
  by_cases e : j = c
  · subst e; rw [qn_us, qn_us, qn_us, qn_us]; exact h6
  · rw [qn_un e, qn_un e, qn_un e, qn_un e]; exact H j hj
theorem qx_u {kd fi se th : Nat → Int32} {K A B C : Nat → Nat} (X : qx_C kd fi se th K A B C) (c k a b d : Nat) : qx_C (upd kd c (nI k)) (upd fi c (nI a)) (upd se c (nI b)) (upd th c (nI d)) (qn_u K c k) (qn_u A c a) (qn_u B c b) (qn_u C c d) := by
  intro j hj
  by_cases e : j = c
  · subst e; rw [qn_us, qn_us, qn_us, qn_us, pk_us, pk_us, pk_us, pk_us]; exact ⟨rfl, rfl, rfl, rfl⟩
  · rw [qn_un e, qn_un e, qn_un e, qn_un e, pk_un e, pk_un e, pk_un e, pk_un e]; exact X j hj
theorem qy_u {ks os oa ob oc : Nat → Int32} {K A B C : Nat → Nat} {nm op : Nat → Int32} (Y : qy_C ks os oa ob oc K A B C nm op) (c k a b d : Nat) {os' nm' op' : Nat → Int32} {x : Int32} (hx : x = if k = 1 then nm' c else nI a) (hn : ∀ j, j ≠ c → nm' j = nm j) (ho : ∀ j, j ≠ c → op' j = op j) (hs : ∀ j, j ≠ c → os' j = os j) (h2 : k = 2 → os' c = op' c) : qy_C (upd ks c (nI k)) os' (upd oa c x) (upd ob c (nI b)) (upd oc c (nI d)) (qn_u K c k) (qn_u A c a) (qn_u B c b) (qn_u C c d) nm' op' := by
  intro j hj
  by_cases e : j = c
  · subst e; rw [qn_us, qn_us, qn_us, qn_us, pk_us, pk_us, pk_us, pk_us]; exact ⟨rfl, hx, rfl, rfl, h2⟩
  · rw [qn_un e, qn_un e, qn_un e, qn_un e, pk_un e, pk_un e, pk_un e, pk_un e, hn j e, ho j e, hs j e]; exact Y j hj
theorem i_vc0 : wpX_init (fun u => wpY_init (fun v => i_Rel 0 u v)) := by
  unfold wpX_init
  have G : qp_G (fun _ => 0) (fun _ => 0) (fun _ => 0) (fun _ => 0) := fun j hj => ⟨Nat.zero_le 6, Nat.zero_lt_succ 35, Nat.zero_lt_succ 35, Nat.zero_lt_succ 35, fun _ => ⟨Nat.le_refl _, Nat.le_refl _⟩⟩
  have X : qx_C (fun _ => 0) (fun _ => 0) (fun _ => 0) (fun _ => 0) (fun _ => 0) (fun _ => 0) (fun _ => 0) (fun _ => 0) := fun j hj => ⟨rfl, rfl, rfl, rfl⟩
  refine qx_S (fun _ => 0) (fun _ => 0) (fun _ => 0) (fun _ => 0) (fun _ => 0) (fun _ => 0) (fun _ => 0) (fun _ => 0) (fun _ => 0) (fun _ => 0) (fun _ => 0) (fun _ => 0) (fun _ => 0) X G (fun ow' sh' dr' so' st' vl' dp' Z => ?_)
  exact ⟨fun _ => 0, fun _ => 0, fun _ => 0, fun _ => 0, G, fun _ _ _ => ⟨rfl, rfl, rfl⟩, X, Z, fun j hj => ⟨rfl, rfl, rfl, rfl, fun _ => rfl⟩⟩
