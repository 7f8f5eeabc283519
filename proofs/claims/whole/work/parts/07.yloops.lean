/-! ===== the reference's searches and counts ===== -/
theorem rc_a31 {n : Nat} (hn : n < 1024) : nI n &&& 31 = nI (n % 32) := pk_andN (by omega) 5 (by decide)
theorem rc_s5 {n : Nat} (hn : n < 1024) : nI n >>> ((5 : Int32) &&& 31) = nI (n / 32) := pk_shrN (by omega) ((5 : Int32) &&& 31) 5 (by decide)
theorem rc_cn_le {K : Nat} : rc_cn K ≤ 1024 := by
  unfold rc_cn
  split <;> omega
theorem yn_k {post : Int32 → SY → Prop} {x1 x2 : Int32} {n K : Nat} {aw ac am ah : Nat → Int32} (hK : K = 1 ∨ K = 2) (h : wY_nearMessage_26 post (wY_nearMessage_9 post x1 n) x1 x2 (nI (rc_cn K)) x2 (nI K) aw ac am ah) : wY_nearMessage_9 post x1 (n + 1) x2 (nI K) aw ac am ah := by
  rcases hK with rfl | rfl
  · exact br_f (by decide) h
  · exact br_t (by decide) h
theorem yn_step {post : Int32 → SY → Prop} {J9 : Int32 → Int32 → (Nat → Int32) → (Nat → Int32) → (Nat → Int32) → (Nat → Int32) → Prop} {fk : Int32} {aw ac am ah : Nat → Int32} {w : Nat → Nat} {c lim i : Nat} (hc : c ≤ 1024) (hl : lim ≤ 5) (hw : ∀ j, j < 5 → w j < 32 ∧ aw j = nI (w j)) (hi : i < c) (k1 : rc_Dn w i ≤ lim → ∀ ac' am', post (nI i) (fk, aw, ac', am', ah)) (k2 : lim < rc_Dn w i → ∀ ac' am', J9 (nI (i + 1)) fk aw ac' am' ah) : wY_nearMessage_26 post J9 (nI lim) (nI i) (nI c) (nI i) fk aw ac am ah := by
  unfold wY_nearMessage_26
  refine br_f (nI_ge (b := c) (by omega) (by omega)) ?_
  rw [rc_a31 (show i < 1024 by omega), rc_s5 (show i < 1024 by omega)]
  have h5 := rc_D_le w (i % 32) (i / 32)
  have eD : rc_Dn w i = rc_D w (i % 32) (i / 32) := rfl
  refine yd hl (by omega) (by omega) hw (fun ac' am' q hq => ?_)
  refine pk_lt lim q (fun z => nm_r (nI_1 i) (k2 (by omega) ac' am')) (fun z => k1 (by omega) ac' am')
theorem yn_some {post : Int32 → SY → Prop} {aw ah : Nat → Int32} {w : Nat → Nat} {K lim m : Nat} (hK : K = 1 ∨ K = 2) (hl : lim ≤ 5) (hw : ∀ j, j < 5 → w j < 32 ∧ aw j = nI (w j)) (hm : m < rc_cn K) (hD : rc_Dn w m ≤ lim) (hmin : ∀ m', m' < m → lim < rc_Dn w m') (k : ∀ ac' am', post (nI m) (nI K, aw, ac', am', ah)) : ∀ d i (ac am : Nat → Int32), i + d = m → wY_nearMessage_9 post (nI lim) (d + 1) (nI i) (nI K) aw ac am ah := by
  intro d
  induction d with
  | zero =>
    intro i ac am hi
    have : i = m := by omega
    subst this
    exact yn_k hK (yn_step rc_cn_le hl hw hm (fun _ => k) (fun z => by omega))
  | succ d ih =>
    intro i ac am hi
    exact yn_k hK (yn_step rc_cn_le hl hw (by omega) (fun z => absurd z (Nat.not_le.mpr (hmin i (by omega)))) (fun _ ac' am' => ih (i + 1) ac' am' (by omega)))
theorem yn_none {post : Int32 → SY → Prop} {aw ah : Nat → Int32} {w : Nat → Nat} {K lim : Nat} (hK : K = 1 ∨ K = 2) (hl : lim ≤ 5) (hw : ∀ j, j < 5 → w j < 32 ∧ aw j = nI (w j)) (hmin : ∀ m', m' < rc_cn K → lim < rc_Dn w m') (k : ∀ ac' am', post (-4) (nI K, aw, ac', am', ah)) : ∀ d i (ac am : Nat → Int32), i + d = rc_cn K → wY_nearMessage_9 post (nI lim) (d + 1) (nI i) (nI K) aw ac am ah := by
  intro d
  induction d with
  | zero =>
    intro i ac am hi
    refine yn_k hK ?_
    unfold wY_nearMessage_26
    have := rc_cn_le (K := K)
    exact br_t (nI_le (by omega) (by omega)) (k ac am)
  | succ d ih =>
    intro i ac am hi
    exact yn_k hK (yn_step rc_cn_le hl hw (by omega) (fun z => absurd z (Nat.not_le.mpr (hmin i (by omega)))) (fun _ ac' am' => ih (i + 1) ac' am' (by omega)))
theorem rc_3k {K : Nat} (hK : K = 1 ∨ K = 2) : (3 : Int32) - nI K = nI (3 - K) := by
  rcases hK with rfl | rfl <;> decide
theorem ynS {post : Int32 → SY → Prop} {aw ac am ah : Nat → Int32} {w : Nat → Nat} {K m : Nat} (hK : K = 1 ∨ K = 2) (hw : ∀ j, j < 5 → w j < 32 ∧ aw j = nI (w j)) (hm : m < rc_cn K) (hD : rc_Dn w m ≤ 3 - K) (hmin : ∀ m', m' < m → 3 - K < rc_Dn w m') (k : ∀ ac' am', post (nI m) (nI K, aw, ac', am', ah)) : wpY_nearMessage post (nI K, aw, ac, am, ah) := by
  unfold wpY_nearMessage
  dsimp only
  exact nm_r (rc_3k hK) ⟨m + 1, yn_some hK (by omega) hw hm hD hmin k m 0 ac am (by omega)⟩
theorem ynN {post : Int32 → SY → Prop} {aw ac am ah : Nat → Int32} {w : Nat → Nat} {K : Nat} (hK : K = 1 ∨ K = 2) (hw : ∀ j, j < 5 → w j < 32 ∧ aw j = nI (w j)) (hmin : ∀ m', m' < rc_cn K → 3 - K < rc_Dn w m') (k : ∀ ac' am', post (-4) (nI K, aw, ac', am', ah)) : wpY_nearMessage post (nI K, aw, ac, am, ah) := by
  unfold wpY_nearMessage
  dsimp only
  exact nm_r (rc_3k hK) ⟨rc_cn K + 1, yn_none hK (by omega) hw hmin k (rc_cn K) 0 ac am (by omega)⟩
theorem ypc_loop {post : Int32 → SY → Prop} {fk : Int32} {aw ac am ah : Nat → Int32} {w c : Nat → Nat} (hw : ∀ j, j < 5 → w j < 32 ∧ aw j = nI (w j)) (hc : ∀ j, j < 5 → c j < 32 ∧ ac j = nI (c j)) (k : post (nI (rc_pl w c 5)) (fk, aw, ac, am, ah)) : ∀ d i, i + d = 5 → wY_placesChanged_11 post fk aw ac am ah (d + 1) (nI (rc_pl w c i)) (nI i) := by
  intro d
  induction d with
  | zero =>
    intro i hi
    have : i = 5 := by omega
    subst this
    exact br_t (by decide) k
  | succ d ih =>
    intro i hi
    obtain ⟨hw1, hw2⟩ := hw i (by omega)
    obtain ⟨hc1, hc2⟩ := hc i (by omega)
    refine br_f (nI_ge (b := 5) (by omega) (by decide)) ⟨vp_in_nI (by omega) (by decide), vp_in_nI (by omega) (by decide), ?_⟩
    rw [nI_clamp (show i < 2 ^ 31 by omega), hw2, hc2]
    have e2 : ¬ w i = c i → nI (rc_pl w c i) ||| ((1 : Int32) <<< (nI i &&& 31)) = nI (rc_pl w c (i + 1)) := by
      intro z
      have e : rc_pl w c (i + 1) = rc_pl w c i ||| 2 ^ i := if_neg z
      rw [e, rc_1sh i (by omega), nx_or]
    refine pk_eq (c i) (w i) (fun z => nm_r (nI_1 i) ?_) (fun z => nm_r (e2 (fun y => z y.symm)) (nm_r (nI_1 i) (ih (i + 1) (by omega))))
    have e : rc_pl w c (i + 1) = rc_pl w c i := if_pos z.symm
    rw [← e]
    exact ih (i + 1) (by omega)
theorem ypc {post : Int32 → SY → Prop} {fk : Int32} {aw ac am ah : Nat → Int32} {w : Nat → Nat} {m0 m1 : Nat} (h0 : m0 < 32) (h1 : m1 < 32) (hw : ∀ j, j < 5 → w j < 32 ∧ aw j = nI (w j)) (k : ∀ ac', post (nI (rc_pl w (rc_cs m0 m1) 5)) (fk, aw, ac', am, ah)) : wpY_placesChanged post (fk, aw, ac, am, ah) (nI m0) (nI m1) := by
  unfold wpY_placesChanged
  dsimp only
  exact ycw h0 h1 (fun ac' hc => ⟨6, ypc_loop hw hc (k ac') 5 0 rfl⟩)
/-! coverings -/
theorem rc_nb0 : vp_nar .boolean 0 = 0 := by decide +kernel
theorem rc_nb1 : vp_nar .boolean 1 = 1 := by decide +kernel
def rc_cv (ah : Nat → Int32) (S : Nat) : Nat → Bool
  | 0 => false
  | p + 1 => rc_cv ah S p || (decide (¬ ah p = 0) && decide ((nI p &&& (nI S ^^^ (-1))) = 0))
theorem rc_cv_i (ah : Nat → Int32) (S : Nat) : ∀ n, (rc_cv ah S n = true ↔ ∃ p, p < n ∧ ¬ ah p = 0 ∧ rc_sb p S) := by
  intro n
  induction n with
  | zero => exact ⟨fun z => (nomatch z), fun ⟨p, a, _⟩ => absurd a (Nat.not_lt_zero p)⟩
  | succ n ih =>
    unfold rc_cv
    rw [Bool.or_eq_true, ih, Bool.and_eq_true, decide_eq_true_eq, decide_eq_true_eq]
    constructor
    · rintro (⟨p, a, b⟩ | ⟨a, b⟩)
      · exact ⟨p, by omega, b⟩
      · exact ⟨n, by omega, a, b⟩
    · rintro ⟨p, a, b, c⟩
      rcases Nat.lt_or_ge p n with y | y
      · exact Or.inl ⟨p, y, b, c⟩
      · have : p = n := by omega
        subst this
        exact Or.inr ⟨b, c⟩
def rc_bI (b : Bool) : Int32 := if b = true then 1 else 0
theorem yc_in {post : Int32 → SY → Prop} {J72 : Int32 → Int32 → Prop} {fk : Int32} {aw ac am ah : Nat → Int32} {S : Nat} {x1 : Int32} (k : J72 (if rc_cv ah S 32 = true then x1 + 1 else x1) (nI (S + 1))) : ∀ d p, p + d = 32 → wY_coverings_83 post J72 x1 (nI S) fk aw ac am ah (d + 1) (rc_bI (rc_cv ah S p)) (nI p) := by
  have n10 : ¬ (1 : Int32) = 0 := by decide
  intro d
  induction d with
  | zero =>
    intro p hp
    have : p = 32 := by omega
    subst this
    refine br_t (by decide) ?_
    by_cases z : rc_cv ah S 32 = true
    · rw [if_pos z] at k
      have e : rc_bI (rc_cv ah S 32) = 1 := if_pos z
      rw [e]
      exact br_f n10 (nm_e (nm_r (nI_1 S) k))
    · rw [if_neg z] at k
      have e : rc_bI (rc_cv ah S 32) = 0 := if_neg z
      rw [e]
      exact br_t rfl (nm_r (nI_1 S) k)
  | succ d ih =>
    intro p hp
    have h := ih (p + 1) (by omega)
    refine br_f (nI_ge (b := 32) (by omega) (by decide)) ?_
    have es : rc_cv ah S (p + 1) = (rc_cv ah S p || (decide (¬ ah p = 0) && decide ((nI p &&& (nI S ^^^ (-1))) = 0))) := rfl
    by_cases z : rc_cv ah S p = true
    · have e : rc_bI (rc_cv ah S p) = 1 := if_pos z
      have e' : rc_bI (rc_cv ah S (p + 1)) = 1 := by rw [es, z, Bool.true_or]; rfl
      rw [e'] at h
      rw [e]
      exact br_f n10 (nm_r (nI_1 p) h)
    · have e : rc_bI (rc_cv ah S p) = 0 := if_neg z
      rw [es, rc_ff z, Bool.false_or] at h
      rw [e]
      refine br_t rfl ⟨vp_in_nI (by omega) (by decide), ?_⟩
      rw [nI_clamp (show p < 2 ^ 31 by omega)]
      refine br_c (fun y => ?_) (fun y => br_c (fun t => ?_) (fun t => ?_))
      · rw [decide_eq_false (fun q => q y), Bool.false_and] at h
        exact nm_r (nI_1 p) h
      · rw [decide_eq_true y, decide_eq_true t] at h
        exact nm_r (nI_1 p) h
      · rw [decide_eq_false t, Bool.and_false] at h
        exact nm_r (nI_1 p) h
theorem yc_out {post : Int32 → SY → Prop} {fk : Int32} {aw ac am ah : Nat → Int32} (k : post (nI (rc_ct (fun S => rc_cv ah S 32) 32)) (fk, aw, ac, am, ah)) : ∀ d i, i + d = 32 → wY_coverings_72 post fk aw ac am ah (d + 1) (nI (rc_ct (fun S => rc_cv ah S 32) i)) (nI i) := by
  intro d
  induction d with
  | zero =>
    intro i hi
    have : i = 32 := by omega
    subst this
    exact br_t (by decide) k
  | succ d ih =>
    intro i hi
    have h := ih (i + 1) (by omega)
    refine br_f (nI_ge (b := 32) (by omega) (by decide)) ⟨33, yc_in ?_ 32 0 rfl⟩
    have e : nI (rc_ct (fun S => rc_cv ah S 32) (i + 1)) = (if rc_cv ah i 32 = true then nI (rc_ct (fun S => rc_cv ah S 32) i) + 1 else nI (rc_ct (fun S => rc_cv ah S 32) i)) := by
      show nI (if rc_cv ah i 32 = true then rc_ct (fun S => rc_cv ah S 32) i + 1 else rc_ct (fun S => rc_cv ah S 32) i) = _
      by_cases z : rc_cv ah i 32 = true
      · rw [if_pos z, if_pos z, nI_1]
      · rw [if_neg z, if_neg z]
    rw [e] at h
    exact h
theorem yc_k {post : Int32 → SY → Prop} {x1 : Int32} {n K : Nat} {aw ac am ah : Nat → Int32} (hK : K = 1 ∨ K = 2) (h : wY_coverings_40 post (wY_coverings_23 post n) x1 (nI (rc_cn K)) x1 (nI K) aw ac am ah) : wY_coverings_23 post (n + 1) x1 (nI K) aw ac am ah := by
  rcases hK with rfl | rfl
  · exact br_f (by decide) h
  · exact br_t (by decide) h
theorem yc_mark {post : Int32 → SY → Prop} {aw am : Nat → Int32} {w : Nat → Nat} {K : Nat} (hK : K = 1 ∨ K = 2) (hw : ∀ j, j < 5 → w j < 32 ∧ aw j = nI (w j)) (k : ∀ (P : Nat → Bool) (ac' ah' : Nat → Int32), (∀ S, S < 32 → (P S = true ↔ ∃ m, m < rc_cn K ∧ rc_sb (rc_pn w m) S)) → post (nI (rc_ct P 32)) (nI K, aw, ac', am, ah')) : ∀ d i (ac ah : Nat → Int32), i + d = rc_cn K → (∀ p, p < 32 → (¬ ah p = 0 ↔ ∃ m, m < i ∧ rc_pn w m = p)) → wY_coverings_23 post (d + 1) (nI i) (nI K) aw ac am ah := by
  have hc := rc_cn_le (K := K)
  intro d
  induction d with
  | zero =>
    intro i ac ah hi h
    have : i = rc_cn K := by omega
    subst this
    refine yc_k hK ?_
    unfold wY_coverings_40
    refine br_t (nI_le (Nat.le_refl _) (by omega)) ⟨33, yc_out (k _ ac ah (fun S hS => ?_)) 32 0 rfl⟩
    rw [rc_cv_i]
    constructor
    · rintro ⟨p, a, b, c⟩
      obtain ⟨m, hm, e⟩ := (h p a).mp b
      exact ⟨m, hm, by rw [e]; exact c⟩
    · rintro ⟨m, hm, c⟩
      exact ⟨rc_pn w m, rc_pn_lt w m, (h _ (rc_pn_lt w m)).mpr ⟨m, hm, rfl⟩, c⟩
  | succ d ih =>
    intro i ac ah hi h
    refine yc_k hK ?_
    unfold wY_coverings_40
    refine br_f (nI_ge (b := rc_cn K) (by omega) (by omega)) ?_
    rw [rc_a31 (show i < 1024 by omega), rc_s5 (show i < 1024 by omega)]
    have hp := rc_pn_lt w i
    refine ypc (by omega) (by omega) hw (fun ac' => ⟨vp_in_nI hp (by decide), ?_⟩)
    rw [nI_clamp (show rc_pl w (rc_cs (i % 32) (i / 32)) 5 < 2 ^ 31 from Nat.lt_trans hp (by decide)), rc_nb1]
    refine nm_e (nm_r (nI_1 i) (ih (i + 1) ac' _ (by omega) (fun p hp' => ?_)))
    by_cases e : p = rc_pl w (rc_cs (i % 32) (i / 32)) 5
    · subst e
      rw [pk_us]
      exact ⟨fun _ => ⟨i, by omega, rfl⟩, fun _ => by decide⟩
    · rw [pk_un e, h p hp']
      constructor
      · rintro ⟨m, a, b⟩
        exact ⟨m, by omega, b⟩
      · rintro ⟨m, a, b⟩
        rcases Nat.lt_or_ge m i with y | y
        · exact ⟨m, y, b⟩
        · have : m = i := by omega
          subst this
          exact absurd b.symm e
theorem yc_0 {post : Int32 → SY → Prop} {fk : Int32} {aw ac am : Nat → Int32} (k : ∀ ah : Nat → Int32, (∀ p, p < 32 → ah p = 0) → ∃ n, wY_coverings_23 post n 0 fk aw ac am ah) : ∀ d i (ah : Nat → Int32), i + d = 32 → (∀ p, p < i → ah p = 0) → wY_coverings_2 post fk (d + 1) (nI i) aw ac am ah := by
  intro d
  induction d with
  | zero =>
    intro i ah hi h
    have : i = 32 := by omega
    subst this
    exact br_t (by decide) (k ah h)
  | succ d ih =>
    intro i ah hi h
    refine br_f (nI_ge (b := 32) (by omega) (by decide)) ⟨vp_in_nI (by omega) (by decide), ?_⟩
    rw [nI_clamp (show i < 2 ^ 31 by omega), rc_nb0]
    refine nm_e (nm_r (nI_1 i) (ih (i + 1) _ (by omega) (fun p hp => ?_)))
    by_cases e : p = i
    · subst e; exact pk_us
    · rw [pk_un e]; exact h p (by omega)
theorem yco {post : Int32 → SY → Prop} {aw ac am ah : Nat → Int32} {w : Nat → Nat} {K : Nat} (hK : K = 1 ∨ K = 2) (hw : ∀ j, j < 5 → w j < 32 ∧ aw j = nI (w j)) (k : ∀ (P : Nat → Bool) (ac' ah' : Nat → Int32), (∀ S, S < 32 → (P S = true ↔ ∃ m, m < rc_cn K ∧ rc_sb (rc_pn w m) S)) → post (nI (rc_ct P 32)) (nI K, aw, ac', am, ah')) : wpY_coverings post (nI K, aw, ac, am, ah) := ⟨33, yc_0 (fun ah' h0 => ⟨rc_cn K + 1, yc_mark hK hw k (rc_cn K) 0 ac ah' (by omega) (fun p hp => ⟨fun z => absurd (h0 p hp) z, fun ⟨m, a, _⟩ => absurd a (Nat.not_lt_zero m)⟩)⟩) 32 0 ah rfl (fun p hp => absurd hp (Nat.not_lt_zero p))⟩
/-! census -/
theorem ys_k {post : Int32 → SY → Prop} {x1 x2 x3 : Int32} {n K : Nat} {aw ac am ah : Nat → Int32} (hK : K = 1 ∨ K = 2) (h : wY_census_21 post (wY_census_4 post x1 n) x1 x2 x3 (nI (rc_cn K)) x3 (nI K) aw ac am ah) : wY_census_4 post x1 (n + 1) x2 x3 (nI K) aw ac am ah := by
  rcases hK with rfl | rfl
  · exact br_f (by decide) h
  · exact br_t (by decide) h
theorem ys_in {post : Int32 → SY → Prop} {J4 : Int32 → Int32 → Int32 → (Nat → Int32) → (Nat → Int32) → (Nat → Int32) → (Nat → Int32) → Prop} {x1 x2 fk : Int32} {aw ac ah : Nat → Int32} {i : Nat} {c : Nat → Nat} (hc : ∀ j, j < 5 → c j < 32 ∧ ac j = nI (c j)) (k : ∀ am', J4 (if nI (rc_er 5 c) = x1 then x2 + 1 else x2) (nI (i + 1)) fk aw ac am' ah) : ∀ d j (am : Nat → Int32), j + d = 5 → (∀ t, t < j → am t = nI (c t)) → wY_census_38 post J4 x1 x2 (nI i) fk (d + 1) (nI j) aw ac am ah := by
  intro d
  induction d with
  | zero =>
    intro j am hj h
    have : j = 5 := by omega
    subst this
    refine br_t (by decide) (yr5 (s := c) (fun t ht => ⟨(hc t ht).1, h t ht⟩) (br_c (fun z => ?_) (fun z => ?_)))
    · have k' := k am
      rw [if_pos z] at k'
      exact nm_e (nm_r (nI_1 i) k')
    · have k' := k am
      rw [if_neg z] at k'
      exact nm_r (nI_1 i) k'
  | succ d ih =>
    intro j am hj h
    refine br_f (nI_ge (b := 5) (by omega) (by decide)) ⟨vp_in_nI (by omega) (by decide), vp_in_nI (by omega) (by decide), ?_⟩
    rw [nI_clamp (show j < 2 ^ 31 by omega), (hc j (by omega)).2]
    refine nm_e (nm_r (nI_1 j) (ih (j + 1) _ (by omega) (fun t ht => ?_)))
    by_cases e : t = j
    · subst e; exact pk_us
    · rw [pk_un e]; exact h t (by omega)
theorem ys_loop {post : Int32 → SY → Prop} {aw ah : Nat → Int32} {K : Nat} {x : Int32} (hK : K = 1 ∨ K = 2) (k : ∀ ac' am', post (nI (rc_ct (rc_cp x) (rc_cn K))) (nI K, aw, ac', am', ah)) : ∀ d i (ac am : Nat → Int32), i + d = rc_cn K → wY_census_4 post x (d + 1) (nI (rc_ct (rc_cp x) i)) (nI i) (nI K) aw ac am ah := by
  have hc := rc_cn_le (K := K)
  intro d
  induction d with
  | zero =>
    intro i ac am hi
    have : i = rc_cn K := by omega
    subst this
    refine ys_k hK ?_
    unfold wY_census_21
    exact br_t (nI_le (Nat.le_refl _) (by omega)) (k ac am)
  | succ d ih =>
    intro i ac am hi
    refine ys_k hK ?_
    unfold wY_census_21
    refine br_f (nI_ge (b := rc_cn K) (by omega) (by omega)) ?_
    rw [rc_a31 (show i < 1024 by omega), rc_s5 (show i < 1024 by omega)]
    refine ycw (by omega) (by omega) (fun ac' hc' => ⟨6, ys_in hc' (fun am' => ?_) 5 0 am rfl (fun t ht => absurd ht (Nat.not_lt_zero t))⟩)
    have h := ih (i + 1) ac' am' (by omega)
    have e : nI (rc_ct (rc_cp x) (i + 1)) = (if nI (rc_er 5 (rc_cs (i % 32) (i / 32))) = x then nI (rc_ct (rc_cp x) i) + 1 else nI (rc_ct (rc_cp x) i)) := by
      by_cases z : nI (rc_er 5 (rc_cs (i % 32) (i / 32))) = x
      · have e1 : rc_ct (rc_cp x) (i + 1) = rc_ct (rc_cp x) i + 1 := if_pos (decide_eq_true z)
        rw [if_pos z, e1, nI_1]
      · have e1 : rc_ct (rc_cp x) (i + 1) = rc_ct (rc_cp x) i := if_neg (fun y => z (of_decide_eq_true y))
        rw [if_neg z, e1]
    rw [e] at h
    exact h
theorem yce {post : Int32 → SY → Prop} {aw ac am ah : Nat → Int32} {K : Nat} {x : Int32} (hK : K = 1 ∨ K = 2) (k : ∀ ac' am', post (nI (rc_ct (rc_cp x) (rc_cn K))) (nI K, aw, ac', am', ah)) : wpY_census post (nI K, aw, ac, am, ah) x := ⟨rc_cn K + 1, ys_loop hK k (rc_cn K) 0 ac am (by omega)⟩
/-! over, disturb -/
theorem yov_loop {post : Int32 → Prop} {fk : Int32} {aw ac am ah : Nat → Int32} {a b : Nat} (ha : a < 32) (hb : b < 32) (k : post (nI (rc_ov a b 32))) : ∀ d i, i + d = 32 → wY_over_27 post (nI a) (nI b) fk aw ac am ah (d + 1) (nI (rc_ov a b i)) (nI i) := by
  intro d
  induction d with
  | zero =>
    intro i hi
    have : i = 32 := by omega
    subst this
    exact br_t (by decide) k
  | succ d ih =>
    intro i hi
    have hp := rc_pr_lt i hb
    refine br_f (nI_ge (b := 32) (by omega) (by decide)) (yp hb (by omega) (pk_eq (rc_pr b i) a (fun z => ?_) (fun z => ?_)))
    · have e : rc_ov a b (i + 1) = i := if_pos z
      have h := ih (i + 1) (by omega)
      rw [e] at h
      exact nm_r (nI_1 i) h
    · have e : rc_ov a b (i + 1) = rc_ov a b i := if_neg z
      have h := ih (i + 1) (by omega)
      rw [e] at h
      exact nm_r (nI_1 i) h
theorem ydi_loop {post : Int32 → SY → Prop} {fk : Int32} {aw ac am ah : Nat → Int32} {a s : Nat} (hs : s < 32) (k : wpY_rank post (fk, rc_dw aw a s 5, ac, am, ah)) : ∀ d i, i + d = 5 → wY_disturb_20 post (nI a) (nI s) fk (d + 1) (nI i) (rc_dw aw a s i) ac am ah := by
  intro d
  induction d with
  | zero =>
    intro i hi
    have : i = 5 := by omega
    subst this
    exact br_t (by decide) k
  | succ d ih =>
    intro i hi
    refine br_f (nI_ge (b := 5) (by omega) (by decide)) (ek_if (rc_bitI (show s < 2 ^ 31 by omega) (show i < 32 by omega)) (fun z => ⟨vp_in_nI (by omega) (by decide), vp_in_nI (by omega) (by decide), ?_⟩) (fun z => ?_))
    · have e : rc_dw aw a s (i + 1) = upd (rc_dw aw a s i) i (rc_dw aw a s i i ^^^ nI a) := if_pos z
      have h := ih (i + 1) (by omega)
      rw [e] at h
      rw [nI_clamp (show i < 2 ^ 31 by omega)]
      exact nm_e (nm_r (nI_1 i) h)
    · have e : rc_dw aw a s (i + 1) = rc_dw aw a s i := if_neg z
      have h := ih (i + 1) (by omega)
      rw [e] at h
      exact nm_r (nI_1 i) h
