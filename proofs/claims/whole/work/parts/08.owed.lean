/-! ===== the relation ===== -/
def i_Rel (k : Nat) (u : SX) (v : SY) : Prop := ∃ (K : Nat) (aw ar ac am ah : Nat → Int32) (w : Nat → Nat), (K = 1 ∨ K = 2) ∧ (∀ j, j < 5 → w j < 32 ∧ aw j = nI (w j)) ∧ u = (nI K, nI (rc_cn K), nI (3 - K), aw, ar) ∧ v = (nI K, aw, ac, am, ah)
theorem rc_rel {k K : Nat} {aw ar ac am ah : Nat → Int32} {w : Nat → Nat} (hK : K = 1 ∨ K = 2) (hw : ∀ j, j < 5 → w j < 32 ∧ aw j = nI (w j)) : i_Rel k (nI K, nI (rc_cn K), nI (3 - K), aw, ar) (nI K, aw, ac, am, ah) := ⟨K, aw, ar, ac, am, ah, w, hK, hw, rfl, rfl⟩
theorem i_up {k : Nat} {u : SX} {v : SY} (h : i_Rel k u v) : i_Rel (k + 3) u v := h
theorem rc_n10 : ¬ (1 : Int32) = 0 := by decide
theorem rc_bad (z : Int32) {n : Nat} (hn : n < 2 ^ 31) : (z < 0 ∨ nI n ≤ z) ∨ ∃ j, j < n ∧ z = nI j := by
  rcases pk_ix z (n := n) hn with h | h | h
  · exact Or.inl (Or.inl h)
  · exact Or.inl (Or.inr h)
  · exact Or.inr h
theorem rc_m4 {m : Nat} (hm : m < 1024) : ¬ nI m = -4 := fun e => by
  have h := nI_pos (n := m) (by omega)
  rw [e] at h
  exact h (by decide)
theorem i_vc0 (k0 : Int32) : wpX_init (fun u => wpY_init (fun v => i_Rel 1 u v) k0) k0 := by
  have z5 : ∀ j, j < 5 → (fun _ => 0 : Nat → Nat) j < 32 ∧ (fun _ => (0 : Int32)) j = nI ((fun _ => 0 : Nat → Nat) j) := fun j _ => ⟨(by decide : 0 < 32), rfl⟩
  have t0 : (1 : Int32).toInt = 1 := by decide
  have t2 : (2 : Int32).toInt = 2 := by decide
  by_cases h : 2 ≤ k0
  · have r2 : i_Rel 1 (2, 1024, 1, (fun _ => 0), (fun _ => 0)) (2, (fun _ => 0), (fun _ => 0), (fun _ => 0), (fun _ => 0)) := rc_rel (K := 2) (Or.inr rfl) z5
    have h1 : 1 ≤ k0 := by rw [Int32.le_iff_toInt_le] at h ⊢; omega
    refine br_t h (br_f (by decide) (br_f (by decide) ?_))
    refine br_t h1 (br_c (fun y => ?_) (fun y => r2))
    have e : k0 = 2 := by
      apply Int32.toInt_inj.mp
      rw [Int32.le_iff_toInt_le] at h y
      omega
    rw [e]
    exact r2
  · have r1 : i_Rel 1 (1, 32, 2, (fun _ => 0), (fun _ => 0)) (1, (fun _ => 0), (fun _ => 0), (fun _ => 0), (fun _ => 0)) := rc_rel (K := 1) (Or.inl rfl) z5
    refine br_f h (br_t (by decide) (br_t (by decide) ?_))
    refine br_c (fun y => ?_) (fun y => r1)
    have e : k0 = 1 := by
      apply Int32.toInt_inj.mp
      rw [Int32.le_iff_toInt_le] at h y
      omega
    refine br_t (by rw [e]; decide) ?_
    rw [e]
    exact r1
theorem i_vc_size {k : Nat} {u : SX} {v : SY} (I : i_Rel k u v) (hk : k + 3 ≤ 1537) : wpX_size (fun r => wpY_size (fun r' => r' = r ∧ i_Rel (k + 3) u v) v) u := by
  obtain ⟨K, aw, ar, ac, am, ah, w, hK, hw, rfl, rfl⟩ := I
  exact And.intro rfl (rc_rel hK hw)
theorem i_vc_times {k : Nat} {u : SX} {v : SY} (I : i_Rel k u v) (hk : k + 3 ≤ 1537) (v1 : Int32) (v2 : Int32) : wpX_times (fun r => wpY_times (fun r' => r' = r ∧ i_Rel (k + 3) u v) v v1 v2) u v1 v2 := by
  obtain ⟨K, aw, ar, ac, am, ah, w, hK, hw, rfl, rfl⟩ := I
  have R : i_Rel (k + 3) (nI K, nI (rc_cn K), nI (3 - K), aw, ar) (nI K, aw, ac, am, ah) := rc_rel hK hw
  unfold wpX_times wpY_times
  dsimp only
  rcases rc_bad v1 (n := 32) (by decide) with hx | ⟨a, ha, rfl⟩
  · refine xe_n hx (br_t rfl ?_)
    exact ye_n hx (br_t rfl (And.intro rfl R))
  rcases rc_bad v2 (n := 32) (by decide) with hy | ⟨b, hb, rfl⟩
  · refine xe_y ha (br_f rc_n10 ?_)
    refine xe_n hy (br_t rfl ?_)
    refine ye_y ha (br_f rc_n10 ?_)
    exact ye_n hy (br_t rfl (And.intro rfl R))
  refine xe_y ha (br_f rc_n10 ?_)
  refine xe_y hb (br_f rc_n10 ?_)
  refine xp ha hb ?_
  refine ye_y ha (br_f rc_n10 ?_)
  refine ye_y hb (br_f rc_n10 ?_)
  exact yp ha hb (And.intro rfl R)
theorem i_vc_over {k : Nat} {u : SX} {v : SY} (I : i_Rel k u v) (hk : k + 3 ≤ 1537) (v1 : Int32) (v2 : Int32) : wpX_over (fun r => wpY_over (fun r' => r' = r ∧ i_Rel (k + 3) u v) v v1 v2) u v1 v2 := by
  obtain ⟨K, aw, ar, ac, am, ah, w, hK, hw, rfl, rfl⟩ := I
  have R : i_Rel (k + 3) (nI K, nI (rc_cn K), nI (3 - K), aw, ar) (nI K, aw, ac, am, ah) := rc_rel hK hw
  unfold wpX_over wpY_over
  dsimp only
  rcases rc_bad v1 (n := 32) (by decide) with hx | ⟨a, ha, rfl⟩
  · refine xe_n hx (br_t rfl ?_)
    exact ye_n hx (br_t rfl (And.intro rfl R))
  rcases rc_bad v2 (n := 32) (by decide) with hy | ⟨b, hb, rfl⟩
  · refine xe_y ha (br_f rc_n10 ?_)
    refine xe_n hy (br_t rfl ?_)
    refine ye_y ha (br_f rc_n10 ?_)
    exact ye_n hy (br_t rfl (And.intro rfl R))
  refine xe_y ha (br_f rc_n10 ?_)
  refine xe_y hb (br_f rc_n10 ?_)
  by_cases z : nI b = 0
  · refine br_t z ?_
    refine ye_y ha (br_f rc_n10 ?_)
    refine ye_y hb (br_f rc_n10 ?_)
    exact br_t z (And.intro rfl R)
  · refine br_f z ⟨33, xov_loop ha hb ?_ 32 0 rfl⟩
    refine ye_y ha (br_f rc_n10 ?_)
    refine ye_y hb (br_f rc_n10 ?_)
    exact br_f z ⟨33, yov_loop ha hb (And.intro rfl R) 32 0 rfl⟩
theorem i_vc_encode {k : Nat} {u : SX} {v : SY} (I : i_Rel k u v) (hk : k + 3 ≤ 1537) (v1 : Int32) (v2 : Int32) : wpX_encode (fun r u' => wpY_encode (fun r' v' => r' = r ∧ i_Rel (k + 3) u' v') v v1 v2) u v1 v2 := by
  obtain ⟨K, aw, ar, ac, am, ah, w, hK, hw, rfl, rfl⟩ := I
  unfold wpX_encode
  dsimp only
  rcases rc_msg (fc := nI (rc_cn K)) (fr := nI (3 - K)) (aw := aw) (ar := ar) (aw' := aw) (ac := ac) (am := am) (ah := ah) hK v1 v2 with ⟨m0, m1, h0, h1, rfl, rfl, hX, hY⟩ | ⟨hX, hY⟩
  · refine hX _ (br_f rc_n10 ?_)
    refine xw h0 h1 ?_
    exact yen h0 h1 hY (fun ac' => And.intro rfl (rc_rel hK (w := rc_cs m0 m1) (fun j hj => ⟨rc_cs_lt j h0 h1, rc_uw_lt aw (rc_cs m0 m1) 5 j hj⟩)))
  · refine hX _ (br_t rfl ?_)
    unfold wpY_encode
    dsimp only
    exact hY _ (br_t rfl (And.intro rfl (rc_rel hK hw)))
theorem i_vc_put {k : Nat} {u : SX} {v : SY} (I : i_Rel k u v) (hk : k + 3 ≤ 1537) (v1 : Int32) (v2 : Int32) : wpX_put (fun r u' => wpY_put (fun r' v' => r' = r ∧ i_Rel (k + 3) u' v') v v1 v2) u v1 v2 := by
  obtain ⟨K, aw, ar, ac, am, ah, w, hK, hw, rfl, rfl⟩ := I
  have R : i_Rel (k + 3) (nI K, nI (rc_cn K), nI (3 - K), aw, ar) (nI K, aw, ac, am, ah) := rc_rel hK hw
  unfold wpX_put wpY_put
  dsimp only
  rcases rc_bad v1 (n := 5) (by decide) with hx | ⟨i, hi, rfl⟩
  · refine xl_n hx (br_t rfl ?_)
    rcases hx with hx | hx
    · exact br_t hx (And.intro rfl R)
    · exact br_f (rc_ng (by decide) hx) (br_t (rc_gt (n := 4) (by decide) hx) (And.intro rfl R))
  have hp : ¬ nI i < 0 := nI_pos (by omega)
  have h4 : ¬ 4 < nI i := nI_nlt (a := 4) (by omega) (by decide)
  rcases rc_bad v2 (n := 32) (by decide) with hy | ⟨c, hc, rfl⟩
  · refine xl_y hi (br_f rc_n10 ?_)
    refine xe_n hy (br_t rfl ?_)
    refine br_f hp (br_f h4 ?_)
    exact ye_n hy (br_t rfl (And.intro rfl R))
  refine xl_y hi (br_f rc_n10 ?_)
  refine xe_y hc (br_f rc_n10 ⟨vp_in_nI hi (by decide), ?_⟩)
  refine nm_e ⟨vp_in_nI hi (by decide), nm_e ?_⟩
  refine br_f hp (br_f h4 ?_)
  refine ye_y hc (br_f rc_n10 ⟨vp_in_nI hi (by decide), ?_⟩)
  refine nm_e ⟨vp_in_nI hi (by decide), nm_e (And.intro rfl ?_)⟩
  rw [nI_clamp (show i < 2 ^ 31 by omega)]
  refine rc_rel hK (w := fun j => if j = i then c else w j) (fun j hj => ?_)
  by_cases e : j = i
  · subst e
    refine ⟨?_, ?_⟩
    · show (if j = j then c else w j) < 32
      rw [if_pos rfl]
      exact hc
    · show upd aw j (nI c) j = nI (if j = j then c else w j)
      rw [if_pos rfl, pk_us]
  · refine ⟨?_, ?_⟩
    · show (if j = i then c else w j) < 32
      rw [if_neg e]
      exact (hw j hj).1
    · show upd aw i (nI c) j = nI (if j = i then c else w j)
      rw [if_neg e, pk_un e]
      exact (hw j hj).2
theorem i_vc_symbol {k : Nat} {u : SX} {v : SY} (I : i_Rel k u v) (hk : k + 3 ≤ 1537) (v1 : Int32) : wpX_symbol (fun r => wpY_symbol (fun r' => r' = r ∧ i_Rel (k + 3) u v) v v1) u v1 := by
  obtain ⟨K, aw, ar, ac, am, ah, w, hK, hw, rfl, rfl⟩ := I
  have R : i_Rel (k + 3) (nI K, nI (rc_cn K), nI (3 - K), aw, ar) (nI K, aw, ac, am, ah) := rc_rel hK hw
  unfold wpX_symbol wpY_symbol
  dsimp only
  rcases rc_bad v1 (n := 5) (by decide) with hx | ⟨i, hi, rfl⟩
  · refine xl_n hx (br_t rfl ?_)
    rcases hx with hx | hx
    · exact br_t hx (And.intro rfl R)
    · exact br_f (rc_ng (by decide) hx) (br_f (Int32.not_le.mpr (rc_gt (n := 4) (by decide) hx)) (And.intro rfl R))
  refine xl_y hi (br_f rc_n10 ⟨vp_in_nI hi (by decide), ?_⟩)
  exact br_f (nI_pos (by omega)) (br_t (nI_le (b := 4) (by omega) (by decide)) ⟨vp_in_nI hi (by decide), And.intro rfl R⟩)
theorem i_vc_disturb {k : Nat} {u : SX} {v : SY} (I : i_Rel k u v) (hk : k + 3 ≤ 1537) (v1 : Int32) (v2 : Int32) : wpX_disturb (fun r u' => wpY_disturb (fun r' v' => r' = r ∧ i_Rel (k + 3) u' v') v v1 v2) u v1 v2 := by
  obtain ⟨K, aw, ar, ac, am, ah, w, hK, hw, rfl, rfl⟩ := I
  have R : i_Rel (k + 3) (nI K, nI (rc_cn K), nI (3 - K), aw, ar) (nI K, aw, ac, am, ah) := rc_rel hK hw
  unfold wpX_disturb wpY_disturb
  dsimp only
  rcases rc_bad v1 (n := 32) (by decide) with hx | ⟨a, ha, rfl⟩
  · refine xe_n hx (br_t rfl ?_)
    exact ye_n hx (br_t rfl (And.intro rfl R))
  rcases rc_bad v2 (n := 32) (by decide) with hy | ⟨s, hs, rfl⟩
  · refine xe_y ha (br_f rc_n10 ?_)
    refine xs_n hy (br_t rfl ?_)
    refine ye_y ha (br_f rc_n10 ?_)
    exact ye_n hy (br_t rfl (And.intro rfl R))
  have hw' : ∀ j, j < 5 → rc_dv w a s j < 32 ∧ rc_dw aw a s 5 j = nI (rc_dv w a s j) := fun j hj => ⟨rc_dv_lt ha (hw j hj).1, rc_dw_lt aw a s hw 5 j hj (by decide)⟩
  refine xe_y ha (br_f rc_n10 ?_)
  refine xs_y hs (br_f rc_n10 ⟨6, xdi_loop hs ?_ 5 0 rfl⟩)
  refine xwd (m0 := 0) (m1 := 0) (by decide) (by decide) hw' (fun r' => ?_)
  refine ye_y ha (br_f rc_n10 ?_)
  refine ye_y hs (br_f rc_n10 ⟨6, ydi_loop hs ?_ 5 0 rfl⟩)
  unfold wpY_rank
  dsimp only
  exact yd5 (m0 := 0) (m1 := 0) (by decide) (by decide) hw' (fun ac' am' => And.intro rfl (rc_rel hK hw'))
theorem i_vc_rank {k : Nat} {u : SX} {v : SY} (I : i_Rel k u v) (hk : k + 3 ≤ 1537) : wpX_rank (fun r u' => wpY_rank (fun r' v' => r' = r ∧ i_Rel (k + 3) u' v') v) u := by
  obtain ⟨K, aw, ar, ac, am, ah, w, hK, hw, rfl, rfl⟩ := I
  unfold wpX_rank wpY_rank
  dsimp only
  refine xwd (m0 := 0) (m1 := 0) (by decide) (by decide) hw (fun r' => ?_)
  exact yd5 (m0 := 0) (m1 := 0) (by decide) (by decide) hw (fun ac' am' => And.intro rfl (rc_rel hK hw))
theorem i_vc_distance {k : Nat} {u : SX} {v : SY} (I : i_Rel k u v) (hk : k + 3 ≤ 1537) (v1 : Int32) (v2 : Int32) : wpX_distance (fun r u' => wpY_distance (fun r' v' => r' = r ∧ i_Rel (k + 3) u' v') v v1 v2) u v1 v2 := by
  obtain ⟨K, aw, ar, ac, am, ah, w, hK, hw, rfl, rfl⟩ := I
  unfold wpX_distance wpY_distance
  dsimp only
  rcases rc_msg (fc := nI (rc_cn K)) (fr := nI (3 - K)) (aw := aw) (ar := ar) (aw' := aw) (ac := ac) (am := am) (ah := ah) hK v1 v2 with ⟨m0, m1, h0, h1, rfl, rfl, hX, hY⟩ | ⟨hX, hY⟩
  · refine hX _ (br_f rc_n10 ?_)
    refine xwd h0 h1 hw (fun r' => ?_)
    refine hY _ (br_f rc_n10 ?_)
    exact yd5 h0 h1 hw (fun ac' am' => And.intro rfl (rc_rel hK hw))
  · refine hX _ (br_t rfl ?_)
    exact hY _ (br_t rfl (And.intro rfl (rc_rel hK hw)))
theorem rc_cn_m {K m : Nat} (hm : m < rc_cn K) : m < 1024 := Nat.lt_of_lt_of_le hm rc_cn_le
theorem yerS {post : Int32 → SY → Prop} {aw ac am ah : Nat → Int32} {w : Nat → Nat} {K m : Nat} (hK : K = 1 ∨ K = 2) (hw : ∀ j, j < 5 → w j < 32 ∧ aw j = nI (w j)) (hm : m < rc_cn K) (hD : rc_Dn w m ≤ 3 - K) (hmin : ∀ m', m' < m → 3 - K < rc_Dn w m') (k : ∀ ac' am', post (nI (rc_Dn w m)) (nI K, aw, ac', am', ah)) : wpY_errors post (nI K, aw, ac, am, ah) := by
  have hm' := rc_cn_m hm
  unfold wpY_errors
  dsimp only
  refine ynS hK hw hm hD hmin (fun ac' am' => br_f (rc_m4 hm') ?_)
  rw [rc_a31 hm', rc_s5 hm']
  exact yd5 (by omega) (by omega) hw (fun ac'' am'' => k ac'' am'')
theorem yerN {post : Int32 → SY → Prop} {aw ac am ah : Nat → Int32} {w : Nat → Nat} {K : Nat} (hK : K = 1 ∨ K = 2) (hw : ∀ j, j < 5 → w j < 32 ∧ aw j = nI (w j)) (hmin : ∀ m', m' < rc_cn K → 3 - K < rc_Dn w m') (k : ∀ ac' am', post (-4) (nI K, aw, ac', am', ah)) : wpY_errors post (nI K, aw, ac, am, ah) := by
  unfold wpY_errors
  dsimp only
  exact ynN hK hw hmin (fun ac' am' => br_t rfl (k ac' am'))
theorem i_vc_errors {k : Nat} {u : SX} {v : SY} (I : i_Rel k u v) (hk : k + 3 ≤ 1537) : wpX_errors (fun r u' => wpY_errors (fun r' v' => r' = r ∧ i_Rel (k + 3) u' v') v) u := by
  obtain ⟨K, aw, ar, ac, am, ah, w, hK, hw, rfl, rfl⟩ := I
  unfold wpX_errors
  dsimp only
  rcases rc_dich (rc_Dn w) (3 - K) (rc_cn K) with ⟨m, hm, hD, hmin⟩ | hmin
  · have hm' := rc_cn_m hm
    refine xmS rc_cn_le (by omega) hw hm hD hmin (fun r' => br_f (rc_m4 hm') ?_)
    refine xfe hm' (xse hm' (xwd (by omega) (by omega) hw (fun r'' => ?_)))
    exact yerS hK hw hm hD hmin (fun ac' am' => And.intro rfl (rc_rel hK hw))
  · refine xmN rc_cn_le (by omega) hw hmin (fun r' => br_t rfl ?_)
    exact yerN hK hw hmin (fun ac' am' => And.intro rfl (rc_rel hK hw))
theorem i_vc_message {k : Nat} {u : SX} {v : SY} (I : i_Rel k u v) (hk : k + 3 ≤ 1537) (v1 : Int32) : wpX_message (fun r u' => wpY_message (fun r' v' => r' = r ∧ i_Rel (k + 3) u' v') v v1) u v1 := by
  obtain ⟨K, aw, ar, ac, am, ah, w, hK, hw, rfl, rfl⟩ := I
  have R : i_Rel (k + 3) (nI K, nI (rc_cn K), nI (3 - K), aw, ar) (nI K, aw, ac, am, ah) := rc_rel hK hw
  unfold wpX_message wpY_message
  dsimp only
  by_cases h0 : v1 < 0
  · exact br_t h0 (br_t h0 (And.intro rfl R))
  by_cases h1 : v1 < nI K
  · refine br_f h0 (br_t h1 ?_)
    rcases rc_dich (rc_Dn w) (3 - K) (rc_cn K) with ⟨m, hm, hD, hmin⟩ | hmin
    · have hm' := rc_cn_m hm
      refine xmS rc_cn_le (by omega) hw hm hD hmin (fun r' => br_f (rc_m4 hm') ?_)
      by_cases z : v1 = 0
      · refine br_t z (xfe hm' ?_)
        refine br_f h0 (br_t h1 ?_)
        refine ynS hK hw hm hD hmin (fun ac' am' => br_f (rc_m4 hm') (br_t z ?_))
        rw [rc_a31 hm']
        exact And.intro rfl (rc_rel hK hw)
      · refine br_f z (xse hm' ?_)
        refine br_f h0 (br_t h1 ?_)
        refine ynS hK hw hm hD hmin (fun ac' am' => br_f (rc_m4 hm') (br_f z ?_))
        rw [rc_s5 hm']
        exact And.intro rfl (rc_rel hK hw)
    · refine xmN rc_cn_le (by omega) hw hmin (fun r' => br_t rfl ?_)
      refine br_f h0 (br_t h1 ?_)
      exact ynN hK hw hmin (fun ac' am' => br_t rfl (And.intro rfl (rc_rel hK hw)))
  · exact br_f h0 (br_f h1 (br_f h0 (br_f h1 (And.intro rfl R))))
theorem rc_ymsg {K m : Nat} {aw ac am ah : Nat → Int32} (hK : K = 1 ∨ K = 2) (hm : m < rc_cn K) : ∀ post : Int32 → Prop, post 1 → wpY_isMessage post (nI K, aw, ac, am, ah) (nI (m % 32)) (nI (m / 32)) := by
  intro post k
  have hm' := rc_cn_m hm
  unfold wpY_isMessage
  dsimp only
  refine ye_y (by omega) (br_f rc_n10 ?_)
  refine ye_y (by omega) (br_f rc_n10 ?_)
  rcases hK with rfl | rfl
  · have e : m / 32 = 0 := by
      have : m < 32 := hm
      omega
    rw [e]
    exact br_f (by decide) (br_t rfl k)
  · exact br_t rfl k
theorem i_vc_correct {k : Nat} {u : SX} {v : SY} (I : i_Rel k u v) (hk : k + 3 ≤ 1537) : wpX_correct (fun r u' => wpY_correct (fun r' v' => r' = r ∧ i_Rel (k + 3) u' v') v) u := by
  obtain ⟨K, aw, ar, ac, am, ah, w, hK, hw, rfl, rfl⟩ := I
  unfold wpX_correct wpY_correct
  dsimp only
  rcases rc_dich (rc_Dn w) (3 - K) (rc_cn K) with ⟨m, hm, hD, hmin⟩ | hmin
  · have hm' := rc_cn_m hm
    have a0 : m % 32 < 32 := by omega
    have a1 : m / 32 < 32 := by omega
    refine xmS rc_cn_le (by omega) hw hm hD hmin (fun r' => br_f (rc_m4 hm') ?_)
    refine xfe hm' (xse hm' (xwd a0 a1 hw (fun r'' => ?_)))
    refine xw a0 a1 ?_
    refine ynS hK hw hm hD hmin (fun ac' am' => br_f (rc_m4 hm') ?_)
    rw [rc_a31 hm', rc_s5 hm']
    refine yd5 a0 a1 hw (fun ac'' am'' => ?_)
    exact yen a0 a1 (rc_ymsg hK hm) (fun ac3 => And.intro rfl (rc_rel hK (w := rc_cs (m % 32) (m / 32)) (fun j hj => ⟨rc_cs_lt j a0 a1, rc_uw_lt aw (rc_cs (m % 32) (m / 32)) 5 j hj⟩)))
  · refine xmN rc_cn_le (by omega) hw hmin (fun r' => br_t rfl ?_)
    exact ynN hK hw hmin (fun ac' am' => br_t rfl (And.intro rfl (rc_rel hK hw)))
theorem rc_uniq {w : Nat → Nat} {K m n : Nat} (hK : K = 1 ∨ K = 2) (hm : m < rc_cn K) (hn : n < rc_cn K) (h0 : rc_Dn w m = 0) (h : rc_Dn w n ≤ 3 - K) : rc_Dn w n = 0 := by
  have hm' := rc_cn_m hm
  have hn' := rc_cn_m hn
  have e : rc_Dn w n = rc_er 5 (rc_cs (m % 32 ^^^ n % 32) (m / 32 ^^^ n / 32)) := rc_D_uni (by omega) (by omega) (by omega) (by omega) h0
  rw [e] at h ⊢
  have x0 : m % 32 ^^^ n % 32 < 32 := rc_x32 (by omega) (by omega)
  have x1 : m / 32 ^^^ n / 32 < 32 := rc_x32 (by omega) (by omega)
  rcases hK with rfl | rfl
  · have e1 : m / 32 = 0 := by
      have : m < 32 := hm
      omega
    have e2 : n / 32 = 0 := by
      have : n < 32 := hn
      omega
    rw [e1, e2, Nat.xor_self] at h ⊢
    exact rc_min1 _ x0 h
  · exact rc_min2 _ x0 _ x1 h
theorem i_vc_clean {k : Nat} {u : SX} {v : SY} (I : i_Rel k u v) (hk : k + 3 ≤ 1537) : wpX_clean (fun r u' => wpY_clean (fun r' v' => r' = r ∧ i_Rel (k + 3) u' v') v) u := by
  obtain ⟨K, aw, ar, ac, am, ah, w, hK, hw, rfl, rfl⟩ := I
  unfold wpX_clean wpY_clean
  dsimp only
  rcases rc_dich (rc_Dn w) 0 (rc_cn K) with ⟨m, hm, hD, hmin⟩ | hmin
  · have hm' := rc_cn_m hm
    refine xmS (lim := 0) rc_cn_le (by decide) hw hm hD hmin (fun r' => br_f (rc_m4 hm') ?_)
    rcases rc_dich (rc_Dn w) (3 - K) (rc_cn K) with ⟨n, hn, hD2, hmin2⟩ | hmin2
    · have e : rc_Dn w n = 0 := rc_uniq hK hm hn (by omega) hD2
      refine yerS hK hw hn hD2 hmin2 (fun ac' am' => ?_)
      rw [e]
      exact br_t rfl (And.intro rfl (rc_rel hK hw))
    · have := hmin2 m hm
      omega
  · refine xmN (lim := 0) rc_cn_le (by decide) hw hmin (fun r' => br_t rfl ?_)
    rcases rc_dich (rc_Dn w) (3 - K) (rc_cn K) with ⟨n, hn, hD2, hmin2⟩ | hmin2
    · refine yerS hK hw hn hD2 hmin2 (fun ac' am' => br_f (nI_ne0 (hmin n hn) (by omega)) ?_)
      exact And.intro rfl (rc_rel hK hw)
    · exact yerN hK hw hmin2 (fun ac' am' => br_f (by decide) (And.intro rfl (rc_rel hK hw)))
theorem i_vc_coverings {k : Nat} {u : SX} {v : SY} (I : i_Rel k u v) (hk : k + 3 ≤ 1537) : wpX_coverings (fun r => wpY_coverings (fun r' v' => r' = r ∧ i_Rel (k + 3) u v') v) u := by
  obtain ⟨K, aw, ar, ac, am, ah, w, hK, hw, rfl, rfl⟩ := I
  refine xco rc_cn_le hw (fun P hP => ?_)
  exact yco hK hw (fun P' ac' ah' hP' => And.intro (congrArg nI (rc_ct_ext P' P 32 (fun S hS => (hP' S hS).trans (hP S hS).symm))) (rc_rel hK hw))
theorem i_vc_census {k : Nat} {u : SX} {v : SY} (I : i_Rel k u v) (hk : k + 3 ≤ 1537) (v1 : Int32) : wpX_census (fun r u' => wpY_census (fun r' v' => r' = r ∧ i_Rel (k + 3) u' v') v v1) u v1 := by
  obtain ⟨K, aw, ar, ac, am, ah, w, hK, hw, rfl, rfl⟩ := I
  refine xce rc_cn_le (fun r' => ?_)
  exact yce hK (fun ac' am' => And.intro rfl (rc_rel hK hw))
