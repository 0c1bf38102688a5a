/-! the small walks: moved, inside, good cells, good rectangles, combine, height, width, cellsBetween -/
theorem qn_m6' {a : Nat} (h : a < 2000) : nI a - nI (a / 6) * 6 = nI (a % 6) := by
  have e := qn_m6 h
  rw [qn_d6 h] at e
  exact e
theorem qn_m36' {a : Nat} (h : a < 2000) : nI a - nI (a / 36) * 36 = nI (a % 36) := by
  have e := qn_m36 h
  rw [qn_d36 h] at e
  exact e
theorem qn_t5 : (5 : Int32).toInt = 5 := by decide
theorem qn_t6 : (6 : Int32).toInt = 6 := by decide
theorem qn_t0 : (0 : Int32).toInt = 0 := by decide
theorem qn_56 (x : Int32) : 5 < x ↔ 6 ≤ x := by
  rw [Int32.lt_iff_toInt_lt, Int32.le_iff_toInt_le, qn_t5, qn_t6]; omega
theorem qn_65 (x : Int32) : x ≤ 5 ↔ x < 6 := by
  rw [Int32.lt_iff_toInt_lt, Int32.le_iff_toInt_le, qn_t5, qn_t6]; omega
theorem qn_c36 (x : Int32) : x ≤ 35 ↔ ¬ 36 ≤ x := by
  rw [Int32.le_iff_toInt_le, Int32.le_iff_toInt_le, show (35 : Int32).toInt = 35 by decide, show (36 : Int32).toInt = 36 by decide]; omega
theorem qn_c1296 (x : Int32) : x ≤ 1295 ↔ x < 1296 := by
  rw [Int32.le_iff_toInt_le, Int32.lt_iff_toInt_lt, show (1295 : Int32).toInt = 1295 by decide, show (1296 : Int32).toInt = 1296 by decide]; omega
theorem qn_c5 (x : Int32) : x ≤ 4 ↔ x < 5 := by
  rw [Int32.le_iff_toInt_le, Int32.lt_iff_toInt_lt, show (4 : Int32).toInt = 4 by decide, qn_t5]; omega
theorem qn_c4 (x : Int32) : x ≤ 3 ↔ x < 4 := by
  rw [Int32.le_iff_toInt_le, Int32.lt_iff_toInt_lt, show (4 : Int32).toInt = 4 by decide, show (3 : Int32).toInt = 3 by decide]; omega
def qm_v (p0 p1 p2 : Int32) : Int32 := if p0 / 6 + p1 < 0 then -1 else if 6 ≤ p0 / 6 + p1 then -1 else if (p0 - p0 / 6 * 6) + p2 < 0 then -1 else if (p0 - p0 / 6 * 6) + p2 < 6 then (6 * (p0 / 6 + p1)) + ((p0 - p0 / 6 * 6) + p2) else -1
theorem qm_X {post : Int32 → Prop} {p0 p1 p2 : Int32} (h : post (qm_v p0 p1 p2)) : wpX_moved post p0 p1 p2 := by
  unfold qm_v at h
  refine ⟨qn_6, nm_e ⟨qn_6, nm_e ?_⟩⟩
  refine br_c (fun c => by rw [if_pos c] at h; exact h) (fun c => ?_)
  rw [if_neg c] at h
  refine br_c (fun c => by rw [if_pos c] at h; exact h) (fun c => ?_)
  rw [if_neg c] at h
  refine br_c (fun c => by rw [if_pos c] at h; exact h) (fun c => ?_)
  rw [if_neg c] at h
  refine br_c (fun c => by rw [if_pos c] at h; exact h) (fun c => ?_)
  rw [if_neg c] at h
  exact h
theorem qm_Y {post : Int32 → Prop} {v : SY} {p0 p1 p2 : Int32} (h : post (qm_v p0 p1 p2)) : wpY_moved post v p0 p1 p2 := by
  obtain ⟨ks, os, oa, ob, oc, fr, di, fa, wk, nx⟩ := v
  unfold qm_v at h
  refine ⟨qn_6, nm_e ⟨qn_6, nm_e ?_⟩⟩
  refine br_c (fun c => by rw [if_pos c] at h; exact h) (fun c => ?_)
  rw [if_neg c] at h
  refine ek_if (qn_56 _) (fun c => by rw [if_pos c] at h; exact h) (fun c => ?_)
  rw [if_neg c] at h
  refine br_c (fun c => by rw [if_pos c] at h; exact h) (fun c => ?_)
  rw [if_neg c] at h
  refine ek_if (qn_65 _) (fun c => by rw [if_pos c] at h; exact h) (fun c => ?_)
  rw [if_neg c] at h
  exact h
theorem qm_ad {a : Nat} {p : Int32} {i : Int} (ha : a < 6) (hp : p.toInt = i) (h1 : -6 ≤ i) (h2 : i ≤ 6) : (nI a + p).toInt = a + i := by
  rw [Int32.toInt_add, nI_toInt (by omega), hp]
  exact Int.bmod_eq_of_le (by omega) (by omega)
theorem qm_ok {a : Nat} {p1 p2 : Int32} {i j : Int} (ha : a < 36) (e1 : p1.toInt = i) (e2 : p2.toInt = j) (hi : -6 ≤ i ∧ i ≤ 6) (hj : -6 ≤ j ∧ j ≤ 6) :
    (∃ b : Nat, b < 36 ∧ qm_v (nI a) p1 p2 = nI b ∧ ((b / 6 : Nat) : Int) = (a / 6 : Nat) + i ∧ ((b % 6 : Nat) : Int) = (a % 6 : Nat) + j) ∨ (qm_v (nI a) p1 p2 = -1 ∧ ¬ (0 ≤ ((a / 6 : Nat) : Int) + i ∧ ((a / 6 : Nat) : Int) + i < 6 ∧ 0 ≤ ((a % 6 : Nat) : Int) + j ∧ ((a % 6 : Nat) : Int) + j < 6)) := by
  have h6 : a / 6 < 6 := by omega
  have h7 : a % 6 < 6 := by omega
  have t1 := qm_ad h6 e1 hi.1 hi.2
  have t2 := qm_ad h7 e2 hj.1 hj.2
  unfold qm_v
  rw [qn_d6 (by omega), qn_m6' (by omega)]
  by_cases c1 : nI (a / 6) + p1 < 0
  · rw [if_pos c1]
    rw [Int32.lt_iff_toInt_lt, t1, qn_t0] at c1
    exact Or.inr ⟨rfl, by omega⟩
  · rw [if_neg c1]
    rw [Int32.lt_iff_toInt_lt, t1, qn_t0] at c1
    by_cases c2 : 6 ≤ nI (a / 6) + p1
    · rw [if_pos c2]
      rw [Int32.le_iff_toInt_le, t1, qn_t6] at c2
      exact Or.inr ⟨rfl, by omega⟩
    · rw [if_neg c2]
      rw [Int32.le_iff_toInt_le, t1, qn_t6] at c2
      by_cases c3 : nI (a % 6) + p2 < 0
      · rw [if_pos c3]
        rw [Int32.lt_iff_toInt_lt, t2, qn_t0] at c3
        exact Or.inr ⟨rfl, by omega⟩
      · rw [if_neg c3]
        rw [Int32.lt_iff_toInt_lt, t2, qn_t0] at c3
        by_cases c4 : nI (a % 6) + p2 < 6
        · rw [if_pos c4]
          rw [Int32.lt_iff_toInt_lt, t2, qn_t6] at c4
          obtain ⟨r, hr⟩ : ∃ r : Nat, (r : Int) = (a / 6 : Nat) + i := ⟨(((a / 6 : Nat) : Int) + i).toNat, by omega⟩
          obtain ⟨k, hk⟩ : ∃ k : Nat, (k : Int) = (a % 6 : Nat) + j := ⟨(((a % 6 : Nat) : Int) + j).toNat, by omega⟩
          have u1 : nI (a / 6) + p1 = nI r := Int32.toInt_inj.mp (by rw [t1, nI_toInt (by omega), hr])
          have u2 : nI (a % 6) + p2 = nI k := Int32.toInt_inj.mp (by rw [t2, nI_toInt (by omega), hk])
          rw [u1, u2, qn_6x, nI_add]
          exact Or.inl ⟨6 * r + k, by omega, rfl, by omega, by omega⟩
        · rw [if_neg c4]
          rw [Int32.lt_iff_toInt_lt, t2, qn_t6] at c4
          exact Or.inr ⟨rfl, by omega⟩
theorem qp_insF {c a b : Nat} (h : ¬ (a / 6 ≤ c / 6 ∧ c / 6 ≤ b / 6 ∧ a % 6 ≤ c % 6 ∧ c % 6 ≤ b % 6)) : qp_ins c a b = false := decide_eq_false h
theorem qp_insT {c a b : Nat} (h : a / 6 ≤ c / 6 ∧ c / 6 ≤ b / 6 ∧ a % 6 ≤ c % 6 ∧ c % 6 ≤ b % 6) : qp_ins c a b = true := decide_eq_true h
theorem qi_ins {post : Int32 → Prop} {v : SY} {c a b : Nat} (hc : c < 36) (ha : a < 36) (hb : b < 36) (h0 : qp_ins c a b = false → post 0) (h1 : qp_ins c a b = true → post 1) : wpY_inside post v (nI c) (nI a) (nI b) := by
  obtain ⟨ks, os, oa, ob, oc, fr, di, fa, wk, nx⟩ := v
  unfold wpY_inside
  dsimp only
  rw [qn_d6 (a := c) (by omega), qn_d6 (a := a) (by omega), qn_d6 (a := b) (by omega), qn_m6' (a := c) (by omega), qn_m6' (a := a) (by omega), qn_m6' (a := b) (by omega), qn_lt (a := c / 6) (b := a / 6) (by omega) (by omega), qn_lt (a := b / 6) (b := c / 6) (by omega) (by omega), qn_lt (a := c % 6) (b := a % 6) (by omega) (by omega), qn_lt (a := b % 6) (b := c % 6) (by omega) (by omega)]
  exact ⟨qn_6, qn_6, br_c (fun h => h0 (qp_insF (by omega))) (fun g1 => ⟨qn_6, qn_6, br_c (fun h => h0 (qp_insF (by omega))) (fun g2 => ⟨qn_6, qn_6, br_c (fun h => h0 (qp_insF (by omega))) (fun g3 => ⟨qn_6, qn_6, br_c (fun h => h0 (qp_insF (by omega))) (fun g4 => h1 (qp_insT (by omega)))⟩)⟩)⟩)⟩
theorem qi_insB {P Q : Prop} {v : SY} {c a b : Nat} (hc : c < 36) (ha : a < 36) (hb : b < 36) (h0 : qp_ins c a b = false → P) (h1 : qp_ins c a b = true → Q) : wpY_inside (fun r => (r = 0 → P) ∧ (¬ r = 0 → Q)) v (nI c) (nI a) (nI b) :=
  qi_ins hc ha hb (fun h => br_t rfl (h0 h)) (fun h => br_f (by decide) (h1 h))
/-- good cells -/
def qi_g (x : Int32) : Prop := ∃ c : Nat, c < 36 ∧ x = nI c
theorem qi_n {x : Int32} (h : ¬ qi_g x) : x < 0 ∨ 36 ≤ x := by
  rcases pk_ix x (n := 36) (by decide) with a | a | ⟨j, hj, e⟩
  · exact Or.inl a
  · exact Or.inr a
  · exact absurd ⟨j, hj, e⟩ h
theorem qi_X0 {post : Int32 → Prop} {x : Int32} (h : ¬ qi_g x) (p : post 0) : wpX_isCell post x :=
  br_c (fun _ => p) (fun g => br_t ((qi_n h).resolve_left g) p)
theorem qi_X1 {post : Int32 → Prop} {c : Nat} (hc : c < 36) (p : post 1) : wpX_isCell post (nI c) :=
  br_f (nI_pos (by omega)) (br_f (qn_ge hc) p)
theorem qi_Y0 {post : Int32 → Prop} {v : SY} {x : Int32} (h : ¬ qi_g x) (p : post 1) : wpY_bad post v x := by
  obtain ⟨ks, os, oa, ob, oc, fr, di, fa, wk, nx⟩ := v
  exact br_c (fun _ => p) (fun g => br_f (fun z => (qn_c36 x).mp z ((qi_n h).resolve_left g)) p)
theorem qi_Y1 {post : Int32 → Prop} {v : SY} {c : Nat} (hc : c < 36) (p : post 0) : wpY_bad post v (nI c) := by
  obtain ⟨ks, os, oa, ob, oc, fr, di, fa, wk, nx⟩ := v
  exact br_f (nI_pos (by omega)) (br_t ((qn_c36 _).mpr (qn_ge hc)) p)
/-- good rectangles -/
def qj_q (q : Nat) : Prop := q < 1296 ∧ q / 36 / 6 ≤ q % 36 / 6 ∧ q / 36 % 6 ≤ q % 36 % 6
def qj_g (x : Int32) : Prop := ∃ q : Nat, qj_q q ∧ x = nI q
theorem qj_X0 {post : Int32 → Prop} {x : Int32} (h : ¬ qj_g x) (p : post 0) : wpX_isRectangle post x := by
  refine br_c (fun _ => p) (fun g => br_c (fun g2 => ?_) (fun _ => p))
  obtain ⟨q, hq, rfl⟩ := nI_of g
  have h3 : q < 1296 := by
    have g3 : nI q < nI 1296 := g2
    rw [nI_ltI hq (by decide)] at g3
    exact g3
  refine ⟨qn_36, nm_r (qn_d36 (by omega)) ⟨qn_36, nm_r (qn_m36 (by omega)) ⟨qn_6, qn_6, ?_⟩⟩⟩
  rw [qn_d6 (by omega), qn_d6 (by omega), qn_m6' (by omega), qn_m6' (by omega), qn_lt (by omega) (by omega), qn_lt (by omega) (by omega)]
  exact br_c (fun _ => p) (fun g4 => ⟨qn_6, qn_6, br_c (fun _ => p) (fun g5 => absurd ⟨q, ⟨h3, by omega, by omega⟩, rfl⟩ h)⟩)
theorem qj_X1 {post : Int32 → Prop} {q : Nat} (h : qj_q q) (p : post 1) : wpX_isRectangle post (nI q) := by
  obtain ⟨h3, h4, h5⟩ := h
  refine br_f (nI_pos (by omega)) (br_t (nI_lt (b := 1296) h3 (by decide)) ?_)
  refine ⟨qn_36, nm_r (qn_d36 (by omega)) ⟨qn_36, nm_r (qn_m36 (by omega)) ⟨qn_6, qn_6, ?_⟩⟩⟩
  rw [qn_d6 (by omega), qn_d6 (by omega), qn_m6' (by omega), qn_m6' (by omega), qn_lt (by omega) (by omega), qn_lt (by omega) (by omega)]
  exact br_f (by omega) ⟨qn_6, qn_6, br_f (by omega) p⟩
theorem qj_Y0 {post : Int32 → Prop} {v : SY} {x : Int32} (h : ¬ qj_g x) (p : post 1) : wpY_badRect post v x := by
  obtain ⟨ks, os, oa, ob, oc, fr, di, fa, wk, nx⟩ := v
  refine br_c (fun _ => p) (fun g => ek_if (qn_c1296 x) (fun g2 => ?_) (fun _ => p))
  obtain ⟨q, hq, rfl⟩ := nI_of g
  have h3 : q < 1296 := by
    have g3 : nI q < nI 1296 := g2
    rw [nI_ltI hq (by decide)] at g3
    exact g3
  refine ⟨qn_36, nm_r (qn_d36 (by omega)) ⟨qn_36, nm_r (qn_m36 (by omega)) ⟨qn_6, qn_6, ?_⟩⟩⟩
  rw [qn_d6 (by omega), qn_d6 (by omega), qn_m6' (by omega), qn_m6' (by omega), qn_lt (by omega) (by omega), qn_leI (by omega) (by omega)]
  exact br_c (fun _ => p) (fun g4 => ⟨qn_6, qn_6, br_c (fun g5 => absurd ⟨q, ⟨h3, by omega, by omega⟩, rfl⟩ h) (fun _ => p)⟩)
theorem qj_Y1 {post : Int32 → Prop} {v : SY} {q : Nat} (h : qj_q q) (p : post 0) : wpY_badRect post v (nI q) := by
  obtain ⟨ks, os, oa, ob, oc, fr, di, fa, wk, nx⟩ := v
  obtain ⟨h3, h4, h5⟩ := h
  refine br_f (nI_pos (by omega)) (br_t ((qn_c1296 _).mpr (nI_lt (b := 1296) h3 (by decide))) ?_)
  refine ⟨qn_36, nm_r (qn_d36 (by omega)) ⟨qn_36, nm_r (qn_m36 (by omega)) ⟨qn_6, qn_6, ?_⟩⟩⟩
  rw [qn_d6 (by omega), qn_d6 (by omega), qn_m6' (by omega), qn_m6' (by omega), qn_lt (by omega) (by omega), qn_leI (by omega) (by omega)]
  exact br_f (by omega) ⟨qn_6, qn_6, br_t (by omega) p⟩
theorem qk_X {post : Int32 → Prop} {o a b : Int32} (h : post (qk_f o a b)) : wpX_combine post o a b := by
  unfold qk_f at h
  have n0 : ∀ z : Int32, (0 : Int32) ≤ z → ¬ z < 0 := fun z hz => Int32.not_lt.mpr hz
  refine br_c (fun c => ?_) (fun c => br_c (fun c3 => ?_) (fun c3 => ?_))
  · rw [if_neg (fun e => by subst e; exact absurd c (by decide)), if_neg (fun e => by subst e; exact absurd c (by decide)), if_neg (fun e => by subst e; exact absurd c (by decide)), if_neg (fun e => by subst e; exact absurd c (by decide))] at h
    exact br_c (fun d => by rw [if_pos d] at h; exact h) (fun d => by rw [if_neg d] at h; exact h)
  · rw [if_neg (fun e => by subst e; exact absurd c3 (by decide)), if_neg (fun e => by subst e; exact absurd c3 (by decide)), if_neg (fun e => by subst e; exact absurd c3 (by decide)), if_neg (fun e => by subst e; exact absurd c3 (by decide))] at h
    exact br_c (fun d => by rw [if_pos d] at h; exact h) (fun d => by rw [if_neg d] at h; exact h)
  · refine br_c (fun d => by rw [if_pos d] at h; exact h) (fun d => ?_)
    rw [if_neg d] at h
    refine br_c (fun d => by rw [if_pos d] at h; exact h) (fun d => ?_)
    rw [if_neg d] at h
    refine br_c (fun d => by rw [if_pos d] at h; exact h) (fun d => ?_)
    rw [if_neg d] at h
    refine br_c (fun d => ?_) (fun d => trivial)
    rw [if_pos d] at h
    exact br_c (fun d => by rw [if_pos d] at h; exact h) (fun d => by rw [if_neg d] at h; exact h)
theorem qk_Y {post : Int32 → Prop} {v : SY} {o a b : Int32} (h : post (qk_f o a b)) : wpY_combine post v o a b := by
  obtain ⟨ks, os, oa, ob, oc, fr, di, fa, wk, nx⟩ := v
  unfold qk_f at h
  refine br_c (fun d => by rw [if_pos d] at h; exact h) (fun d => ?_)
  rw [if_neg d] at h
  refine br_c (fun d => by rw [if_pos d] at h; exact h) (fun d => ?_)
  rw [if_neg d] at h
  refine br_c (fun d => by rw [if_pos d] at h; exact h) (fun d => ?_)
  rw [if_neg d] at h
  refine br_c (fun d => ?_) (fun d => ?_)
  · rw [if_pos d] at h
    exact br_c (fun d => by rw [if_pos d] at h; exact h) (fun d => by rw [if_neg d] at h; exact h)
  · rw [if_neg d] at h
    exact br_c (fun d => by rw [if_pos d] at h; exact h) (fun d => by rw [if_neg d] at h; exact h)
/-- X's contents as the picture has them -/
def qx_C (kd fi se th : Nat → Int32) (K A B C : Nat → Nat) : Prop := ∀ j, j < 36 → kd j = nI (K j) ∧ fi j = nI (A j) ∧ se j = nI (B j) ∧ th j = nI (C j)
theorem qx_h {post : Int32 → Prop} (kd nm op fi se th ow sh : Nat → Int32) (dr so : Nat → Int64) (st vl dp : Nat → Int32) {K A B C : Nat → Nat} (X : qx_C kd fi se th K A B C) (G : qp_G K A B C) {c : Nat} (hc : c < 36) (hK : K c = 3 ∨ K c = 5) (h : post (nI (B c / 6 - A c / 6 + 1))) : wpX_heightOf post (kd, nm, op, fi, se, th, ow, sh, dr, so, st, vl, dp) (nI c) := by
  have g := G c hc
  have g2 := g.2.2.2.2 hK
  have x := X c hc
  refine ⟨qn_in hc, qn_6, qn_in hc, qn_6, ?_⟩
  rw [qn_cl hc, x.2.1, x.2.2.1, qn_d6 (by omega), qn_d6 (by omega), pk_sub g2.1, nI_1]
  exact h
theorem qx_w {post : Int32 → Prop} (kd nm op fi se th ow sh : Nat → Int32) (dr so : Nat → Int64) (st vl dp : Nat → Int32) {K A B C : Nat → Nat} (X : qx_C kd fi se th K A B C) (G : qp_G K A B C) {c : Nat} (hc : c < 36) (hK : K c = 3 ∨ K c = 5) (h : post (nI (B c % 6 - A c % 6 + 1))) : wpX_widthOf post (kd, nm, op, fi, se, th, ow, sh, dr, so, st, vl, dp) (nI c) := by
  have g := G c hc
  have g2 := g.2.2.2.2 hK
  have x := X c hc
  refine ⟨qn_in hc, qn_6, qn_in hc, qn_6, ?_⟩
  rw [qn_cl hc, x.2.1, x.2.2.1, qn_m6 (by omega), qn_m6 (by omega), pk_sub g2.2, nI_1]
  exact h
/-- the cells of a rectangle that lie before row r, or in it before column k -/
def qz_p (a b r k d : Nat) : Bool := qp_ins d a b && decide (d / 6 < r ∨ (d / 6 = r ∧ d % 6 < k))
theorem qz_cb {post : Int64 → Prop} {a b : Nat} (ha : a < 36) (hb : b < 36) (hr : a / 6 ≤ b / 6) (hk : a % 6 ≤ b % 6) (h : ∀ x, qb_m x (fun d => qp_ins d a b) → post x) : wpX_cellsBetween post (nI a) (nI b) := by
  refine ⟨qn_6, nm_r (qn_d6 (by omega)) ?_⟩
  refine pk_loop (fun n r x => wX_cellsBetween_8 post (nI a) (nI b) n x (nI r)) (fun r x => a / 6 ≤ r ∧ qb_m x (qz_p a b r 0)) (b / 6 + 1) (a / 6) 0 (by omega) ?_ ?_ ?_
  · refine ⟨Nat.le_refl _, qb_mc qb_m0 (fun i hi => ?_)⟩
    unfold qz_p
    cases hz : qp_ins i a b with
    | false => rfl
    | true =>
      rw [qp_insI] at hz
      rw [decide_eq_false (by omega)]; rfl
  · intro n x hx
    refine ⟨qn_6, ?_⟩
    refine br_t (by rw [qn_d6 (by omega), qn_lt (by omega) (by omega)]; omega) (h x (qb_mc hx.2 (fun i hi => ?_)))
    unfold qz_p
    cases hz : qp_ins i a b with
    | false => rfl
    | true =>
      rw [qp_insI] at hz
      rw [decide_eq_true (by omega)]; rfl
  · intro n r x hr2 hx IH
    refine ⟨qn_6, br_f (by rw [qn_d6 (by omega), qn_lt (by omega) (by omega)]; omega) ⟨qn_6, nm_r (qn_m6 (by omega)) ?_⟩⟩
    refine pk_loop (fun n2 k x => wX_cellsBetween_23 post (wX_cellsBetween_8 post (nI a) (nI b) n) (nI a) (nI b) (nI r) n2 x (nI k)) (fun k x => a % 6 ≤ k ∧ qb_m x (qz_p a b r k)) (b % 6 + 1) (a % 6) x (by omega) ?_ ?_ ?_
    · refine ⟨Nat.le_refl _, qb_mc hx.2 (fun i hi => ?_)⟩
      unfold qz_p
      cases hz : qp_ins i a b with
      | false => rfl
      | true =>
        rw [qp_insI] at hz
        have e : (i / 6 < r ∨ (i / 6 = r ∧ i % 6 < 0)) ↔ (i / 6 < r ∨ (i / 6 = r ∧ i % 6 < a % 6)) := by omega
        rw [decide_eq_decide.mpr e]
    · intro n2 x2 hx2
      refine ⟨qn_6, br_t (by rw [qn_m6 (by omega), qn_lt (by omega) (by omega)]; omega) (nm_r (nI_1 r) (IH x2 ⟨by omega, qb_mc hx2.2 (fun i hi => ?_)⟩))⟩
      unfold qz_p
      cases hz : qp_ins i a b with
      | false => rfl
      | true =>
        rw [qp_insI] at hz
        have e : (i / 6 < r ∨ (i / 6 = r ∧ i % 6 < b % 6 + 1)) ↔ (i / 6 < r + 1 ∨ (i / 6 = r + 1 ∧ i % 6 < 0)) := by omega
        rw [decide_eq_decide.mpr e]
    · intro n2 k x2 hk2 hx2 IH2
      refine ⟨qn_6, br_f (by rw [qn_m6 (by omega), qn_lt (by omega) (by omega)]; omega) (nm_e (nm_r (nI_1 k) (IH2 _ ⟨by omega, ?_⟩)))⟩
      have e6 : (6 * nI r) + nI k = nI (6 * r + k) := by rw [qn_6x, nI_add]
      rw [e6]
      refine qb_mc (qb_ms (by omega) hx2.2) (fun i hi => ?_)
      unfold qz_p
      by_cases ei : i = 6 * r + k
      · rw [decide_eq_true ei, Bool.or_true, qp_insT (by omega), decide_eq_true (by omega)]; rfl
      · rw [decide_eq_false ei, Bool.or_false]
        have e : (i / 6 < r ∨ (i / 6 = r ∧ i % 6 < k)) ↔ (i / 6 < r ∨ (i / 6 = r ∧ i % 6 < k + 1)) := by omega
        rw [decide_eq_decide.mpr e]
