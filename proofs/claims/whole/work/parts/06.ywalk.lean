/-! ===== the reference's walks ===== -/
theorem rc_ff {x : Bool} (h : ¬ x = true) : x = false := by cases x <;> first | rfl | exact absurd rfl h
theorem rc_37 : ∀ r, r < 4 → (37 : Int32) <<< ((nI (r + 5) - 5) &&& 31) = nI (37 * 2 ^ r) := by decide +kernel
theorem yp2 {post : Int32 → Prop} {fk : Int32} {aw ac am ah : Nat → Int32} : ∀ r w, r ≤ 4 → w < 512 → post (nI (rc_qd r w)) → wY_product_38 post fk aw ac am ah (r + 1) (nI w) (nI (r + 4)) := by
  intro r
  induction r with
  | zero =>
    intro w _ hw hp
    exact br_t (by decide) hp
  | succ r ih =>
    intro w hr hw hp
    rw [show r + 1 + 4 = r + 5 by omega]
    have hp' : post (nI (rc_qd r (rc_v r w))) := hp
    refine br_f (nI_nlt (b := 5) (by omega) (by omega)) (ek_if (rc_bitI (show w < 2 ^ 31 by omega) (show r + 5 < 32 by omega)) (fun z => ?_) (fun z => ?_))
    · have e : rc_v r w = w ^^^ (37 * 2 ^ r) := if_pos z
      rw [rc_37 r (by omega), nx_xor]
      have h := ih (rc_v r w) (by omega) (rc_v_lt (by omega) hw) hp'
      rw [e] at h
      exact nm_e (nm_r (pk_m1 (r + 4)) h)
    · have e : rc_v r w = w := if_neg z
      have h := ih (rc_v r w) (by omega) (rc_v_lt (by omega) hw) hp'
      rw [e] at h
      exact nm_r (pk_m1 (r + 4)) h
theorem yp_loop {post : Int32 → Prop} {fk : Int32} {aw ac am ah : Nat → Int32} {a b : Nat} (ha : a < 32) (hb : b < 32) (k : post (nI (rc_pr a b))) : ∀ d i, i + d = 5 → wY_product_5 post (nI a) (nI b) fk aw ac am ah (d + 1) (nI (rc_wi a b i)) (nI i) := by
  intro d
  induction d with
  | zero =>
    intro i hi
    have : i = 5 := by omega
    subst this
    rw [← rc_qr a ha b hb] at k
    exact br_t (by decide) ⟨5, yp2 4 _ (by decide) (rc_wi_lt b ha 5 (by decide)) k⟩
  | succ d ih =>
    intro i hi
    have h16 := rc_p16 i (by omega)
    have hm : a * 2 ^ i ≤ a * 16 := Nat.mul_le_mul_left a h16
    refine br_f (nI_ge (b := 5) (by omega) (by decide)) (ek_if (rc_bitI (show b < 2 ^ 31 by omega) (show i < 32 by omega)) (fun z => ?_) (fun z => ?_))
    · have e : rc_wi a b (i + 1) = rc_wi a b i ^^^ (a * 2 ^ i) := if_pos z
      have h := ih (i + 1) (by omega)
      rw [e] at h
      rw [pk_shlN (nI i &&& 31) i (s_l i (by omega)) (by omega), nx_xor]
      exact nm_e (nm_r (nI_1 i) h)
    · have e : rc_wi a b (i + 1) = rc_wi a b i := if_neg z
      have h := ih (i + 1) (by omega)
      rw [e] at h
      exact nm_r (nI_1 i) h
theorem yp {post : Int32 → Prop} {fk : Int32} {aw ac am ah : Nat → Int32} {a b : Nat} (ha : a < 32) (hb : b < 32) (k : post (nI (rc_pr a b))) : wpY_product post (fk, aw, ac, am, ah) (nI a) (nI b) := ⟨6, yp_loop ha hb k 5 0 rfl⟩
theorem ye_n {post : Int32 → Prop} {fk : Int32} {aw ac am ah : Nat → Int32} {x : Int32} (h : x < 0 ∨ nI 32 ≤ x) (k : post 0) : wpY_isElement post (fk, aw, ac, am, ah) x := h.elim (fun h => br_t h k) (fun h => br_f (rc_ng (by decide) h) (br_t (rc_gt (n := 31) (by decide) h) k))
theorem ye_y {post : Int32 → Prop} {fk : Int32} {aw ac am ah : Nat → Int32} {a : Nat} (ha : a < 32) (k : post 1) : wpY_isElement post (fk, aw, ac, am, ah) (nI a) := br_f (nI_pos (by omega)) (br_f (nI_nlt (a := 31) (by omega) (by decide)) k)
theorem ycw_loop {post : SY → Prop} {fk : Int32} {aw ac am ah : Nat → Int32} {m0 m1 : Nat} (h0 : m0 < 32) (h1 : m1 < 32) (k : post (fk, aw, rc_uw ac (rc_cs m0 m1) 5, am, ah)) : ∀ d i, i + d = 5 → wY_codeWord_2 post (nI m0) (nI m1) fk (d + 1) (nI i) aw (rc_uw ac (rc_cs m0 m1) i) am ah := by
  intro d
  induction d with
  | zero =>
    intro i hi
    have : i = 5 := by omega
    subst this
    exact br_t (by decide) k
  | succ d ih =>
    intro i hi
    have h2 := rc_p2 i (by omega)
    refine br_f (nI_ge (b := 5) (by omega) (by decide)) (nm_r (rc_1sh i (by omega)) ?_)
    refine yp h2 h2 ?_
    refine yp h0 h2 ?_
    refine yp h1 (rc_pr_lt _ h2) ⟨vp_in_nI (by omega) (by decide), ?_⟩
    rw [nI_clamp (show i < 2 ^ 31 by omega), nx_xor]
    exact nm_e (nm_r (nI_1 i) (ih (i + 1) (by omega)))
theorem ycw {post : SY → Prop} {fk : Int32} {aw ac am ah : Nat → Int32} {m0 m1 : Nat} (h0 : m0 < 32) (h1 : m1 < 32) (k : ∀ ac', (∀ j, j < 5 → rc_cs m0 m1 j < 32 ∧ ac' j = nI (rc_cs m0 m1 j)) → post (fk, aw, ac', am, ah)) : wpY_codeWord post (fk, aw, ac, am, ah) (nI m0) (nI m1) := ⟨6, ycw_loop h0 h1 (k _ (fun j hj => ⟨rc_cs_lt j h0 h1, rc_uw_lt ac (rc_cs m0 m1) 5 j hj⟩)) 5 0 rfl⟩
theorem yr_in {post : Int32 → Prop} {J7 : Int32 → Int32 → Int32 → Prop} {x1 S R fk : Int32} {aw ac am ah : Nat → Int32} {i s : Nat} (hi : i < 5) (hs : s < 32) (es : am i = nI s) (k : ∀ M, rc_Mo S M s 32 → J7 M R (nI (i + 1))) : ∀ d x (M : Int32), x + d = 32 → rc_Mo S M s x → wY_rankOfSum_41 post J7 x1 S R (nI i) fk aw ac am ah (d + 1) M (nI x) := by
  intro d
  induction d with
  | zero =>
    intro x M hx h
    have : x = 32 := by omega
    subst this
    exact br_t (by decide) (nm_r (nI_1 i) (k M h))
  | succ d ih =>
    intro x M hx h
    refine br_f (nI_ge (b := 32) (by omega) (by decide)) (ek_if (rc_bv1 S (show x < 32 by omega)) (fun z => ⟨vp_in_nI hi (by decide), ?_⟩) (fun z => nm_r (nI_1 x) (ih (x + 1) M (by omega) (rc_MoS h (rc_ff z)))))
    rw [nI_clamp (show i < 2 ^ 31 by omega), es, nx_xor]
    exact nm_e (nm_r (nI_1 x) (ih (x + 1) _ (by omega) (rc_MoA h (by omega) hs z)))
theorem yr_loop {post : Int32 → Prop} {fk : Int32} {aw ac am ah : Nat → Int32} {lim : Nat} {s : Nat → Nat} (hl : lim ≤ 5) (hs : ∀ j, j < 5 → s j < 32 ∧ am j = nI (s j)) : ∀ d i R (S : Int32) (red : Nat → Nat), i + d = 5 → R ≤ i → rc_Sp S red → (∀ q, (q = R + rc_er d (fun j => red (s (i + j))) ∨ (lim < q ∧ q ≤ R + rc_er d (fun j => red (s (i + j))))) → post (nI q)) → wY_rankOfSum_7 post (nI lim) fk aw ac am ah (d + 1) S (nI R) (nI i) := by
  intro d
  induction d with
  | zero =>
    intro i R S red hi hR hS k
    have : i = 5 := by omega
    subst this
    exact br_t (by decide) (k R (Or.inl rfl))
  | succ d ih =>
    intro i R S red hi hR hS k
    obtain ⟨h32, ei⟩ := hs i (by omega)
    refine br_f (nI_ge (b := 5) (by omega) (by decide)) (pk_lt lim R (fun z => k R (Or.inr ⟨z, Nat.le_add_right _ _⟩)) (fun z => ⟨vp_in_nI (by omega) (by decide), ?_⟩))
    rw [nI_clamp (show i < 2 ^ 31 by omega), ei]
    refine ek_if (rc_bv0 S h32) (fun y => ?_) (fun y => ?_)
    · have h0 : red (s i) ≠ 0 := fun e => by rw [(hS.1 (s i) h32).mpr e] at y; cases y
      refine nm_r (nI_1 R) ⟨33, yr_in (by omega) h32 ei (fun M hM => ?_) 32 0 S rfl (rc_Mo0 S (s i))⟩
      refine ih (i + 1) (R + 1) M (fun x => rc_cl (red (s i)) (red x)) (by omega) (by omega) (rc_Sp1 hS h32 h0 (rc_MoE hM h32)) (fun q hq => k q ?_)
      have e : rc_er (d + 1) (fun j => red (s (i + j))) = rc_er d (fun j => rc_cl (red (s i)) (red (s (i + 1 + j)))) + 1 := (rc_er_s1 (show ¬ red (s (i + 0)) = 0 from h0)).trans (congrArg (fun t => t + 1) (rc_er_ext _ _ _ (fun j _ => show rc_cl (red (s i)) (red (s (i + (j + 1)))) = rc_cl (red (s i)) (red (s (i + 1 + j))) by rw [show i + (j + 1) = i + 1 + j by omega])))
      rw [e]
      have hq' : q = R + 1 + rc_er d (fun j => rc_cl (red (s i)) (red (s (i + 1 + j)))) ∨ (lim < q ∧ q ≤ R + 1 + rc_er d (fun j => rc_cl (red (s i)) (red (s (i + 1 + j))))) := hq
      generalize rc_er d (fun j => rc_cl (red (s i)) (red (s (i + 1 + j)))) = E at hq' ⊢
      omega
    · have h0 : red (s i) = 0 := (hS.1 (s i) h32).mp (rc_tt y)
      refine nm_r (nI_1 i) (ih (i + 1) R S red (by omega) (by omega) hS (fun q hq => k q ?_))
      have e : rc_er (d + 1) (fun j => red (s (i + j))) = rc_er d (fun j => red (s (i + 1 + j))) := (rc_er_s0 (show red (s (i + 0)) = 0 from h0)).trans (rc_er_ext _ _ _ (fun j _ => show red (s (i + (j + 1))) = red (s (i + 1 + j)) by rw [show i + (j + 1) = i + 1 + j by omega]))
      rw [e]
      exact hq
theorem yr {post : Int32 → Prop} {fk : Int32} {aw ac am ah : Nat → Int32} {lim : Nat} {s : Nat → Nat} (hl : lim ≤ 5) (hs : ∀ j, j < 5 → s j < 32 ∧ am j = nI (s j)) (k : ∀ q, (q = rc_er 5 s ∨ (lim < q ∧ q ≤ rc_er 5 s)) → post (nI q)) : wpY_rankOfSum post (fk, aw, ac, am, ah) (nI lim) := by
  refine ⟨6, yr_loop hl hs 5 0 0 1 (fun x => x) rfl (Nat.le_refl 0) rc_Sp0 (fun q hq => k q ?_)⟩
  have e : rc_er 5 (fun j => s (0 + j)) = rc_er 5 s := rc_er_ext _ _ _ (fun j _ => show s (0 + j) = s j by rw [Nat.zero_add])
  have hq' : q = 0 + rc_er 5 (fun j => s (0 + j)) ∨ (lim < q ∧ q ≤ 0 + rc_er 5 (fun j => s (0 + j))) := hq
  rw [e, Nat.zero_add] at hq'
  exact hq'
theorem yr5 {post : Int32 → Prop} {fk : Int32} {aw ac am ah : Nat → Int32} {s : Nat → Nat} (hs : ∀ j, j < 5 → s j < 32 ∧ am j = nI (s j)) (k : post (nI (rc_er 5 s))) : wpY_rankOfSum post (fk, aw, ac, am, ah) 5 := yr (lim := 5) (by decide) hs (fun q hq => by
  have h := rc_er_le 5 s
  have e : q = rc_er 5 s := by omega
  rw [e]
  exact k)
theorem yd_loop {post : Int32 → SY → Prop} {fk : Int32} {aw ac ah : Nat → Int32} {lim : Nat} {w c : Nat → Nat} (hl : lim ≤ 5) (hw : ∀ j, j < 5 → w j < 32 ∧ aw j = nI (w j)) (hc : ∀ j, j < 5 → c j < 32 ∧ ac j = nI (c j)) (k : ∀ am' q, (q = rc_er 5 (fun j => w j ^^^ c j) ∨ (lim < q ∧ q ≤ rc_er 5 (fun j => w j ^^^ c j))) → post (nI q) (fk, aw, ac, am', ah)) : ∀ d i (am : Nat → Int32), i + d = 5 → (∀ j, j < i → am j = nI (w j ^^^ c j)) → wY_distanceTo_9 post (nI lim) fk (d + 1) (nI i) aw ac am ah := by
  intro d
  induction d with
  | zero =>
    intro i am hi hm
    have : i = 5 := by omega
    subst this
    exact br_t (by decide) (yr (s := fun j => w j ^^^ c j) hl (fun j hj => ⟨rc_x32 (hw j hj).1 (hc j hj).1, hm j hj⟩) (fun q hq => k am q hq))
  | succ d ih =>
    intro i am hi hm
    refine br_f (nI_ge (b := 5) (by omega) (by decide)) ⟨vp_in_nI (by omega) (by decide), vp_in_nI (by omega) (by decide), vp_in_nI (by omega) (by decide), ?_⟩
    rw [nI_clamp (show i < 2 ^ 31 by omega), (hw i (by omega)).2, (hc i (by omega)).2, nx_xor]
    refine nm_e (nm_r (nI_1 i) (ih (i + 1) _ (by omega) (fun j b => ?_)))
    by_cases h : j = i
    · subst h; exact pk_us
    · rw [pk_un h]; exact hm j (by omega)
theorem yd {post : Int32 → SY → Prop} {fk : Int32} {aw ac am ah : Nat → Int32} {lim m0 m1 : Nat} {w : Nat → Nat} (hl : lim ≤ 5) (h0 : m0 < 32) (h1 : m1 < 32) (hw : ∀ j, j < 5 → w j < 32 ∧ aw j = nI (w j)) (k : ∀ ac' am' q, (q = rc_D w m0 m1 ∨ (lim < q ∧ q ≤ rc_D w m0 m1)) → post (nI q) (fk, aw, ac', am', ah)) : wpY_distanceTo post (fk, aw, ac, am, ah) (nI m0) (nI m1) (nI lim) := by
  unfold wpY_distanceTo
  dsimp only
  exact ycw h0 h1 (fun ac' hc => ⟨6, yd_loop hl hw hc (fun am' q hq => k ac' am' q hq) 5 0 am rfl (fun j hj => by omega)⟩)
theorem yd5 {post : Int32 → SY → Prop} {fk : Int32} {aw ac am ah : Nat → Int32} {m0 m1 : Nat} {w : Nat → Nat} (h0 : m0 < 32) (h1 : m1 < 32) (hw : ∀ j, j < 5 → w j < 32 ∧ aw j = nI (w j)) (k : ∀ ac' am', post (nI (rc_D w m0 m1)) (fk, aw, ac', am', ah)) : wpY_distanceTo post (fk, aw, ac, am, ah) (nI m0) (nI m1) 5 := yd (lim := 5) (by decide) h0 h1 hw (fun ac' am' q hq => by
  have h := rc_D_le w m0 m1
  have e : q = rc_D w m0 m1 := by omega
  rw [e]
  exact k ac' am')
theorem yen_loop {post : Int32 → SY → Prop} {fk : Int32} {aw ac am ah : Nat → Int32} {c : Nat → Nat} (hc : ∀ j, j < 5 → c j < 32 ∧ ac j = nI (c j)) (k : post 0 (fk, rc_uw aw c 5, ac, am, ah)) : ∀ d i, i + d = 5 → wY_encode_19 post fk (d + 1) (nI i) (rc_uw aw c i) ac am ah := by
  intro d
  induction d with
  | zero =>
    intro i hi
    have : i = 5 := by omega
    subst this
    exact br_t (by decide) k
  | succ d ih =>
    intro i hi
    refine br_f (nI_ge (b := 5) (by omega) (by decide)) ⟨vp_in_nI (by omega) (by decide), vp_in_nI (by omega) (by decide), ?_⟩
    rw [nI_clamp (show i < 2 ^ 31 by omega), (hc i (by omega)).2]
    exact nm_e (nm_r (nI_1 i) (ih (i + 1) (by omega)))
/-- messages: both sides say the same of two numbers -/
theorem rc_msg {fc fr : Int32} {aw ar aw' ac am ah : Nat → Int32} {K : Nat} (hK : K = 1 ∨ K = 2) (x y : Int32) :
    (∃ m0 m1, m0 < 32 ∧ m1 < 32 ∧ x = nI m0 ∧ y = nI m1 ∧ (∀ post : Int32 → Prop, post 1 → wpX_isMessage post (nI K, fc, fr, aw, ar) x y) ∧ (∀ post : Int32 → Prop, post 1 → wpY_isMessage post (nI K, aw', ac, am, ah) x y)) ∨
    ((∀ post : Int32 → Prop, post 0 → wpX_isMessage post (nI K, fc, fr, aw, ar) x y) ∧ (∀ post : Int32 → Prop, post 0 → wpY_isMessage post (nI K, aw', ac, am, ah) x y)) := by
  have bad : ∀ z : Int32, (z < 0 ∨ nI 32 ≤ z) ∨ ∃ j, j < 32 ∧ z = nI j := fun z => by
    rcases pk_ix z (n := 32) (by decide) with h | h | h
    · exact Or.inl (Or.inl h)
    · exact Or.inl (Or.inr h)
    · exact Or.inr h
  have n10 : ¬ (1 : Int32) = 0 := by decide
  unfold wpX_isMessage wpY_isMessage
  dsimp only
  rcases bad x with hx | ⟨m0, h0, rfl⟩
  · exact Or.inr ⟨fun post k => xe_n hx (br_t rfl k), fun post k => ye_n hx (br_t rfl k)⟩
  rcases bad y with hy | ⟨m1, h1, rfl⟩
  · exact Or.inr ⟨fun post k => xe_y h0 (br_f n10 (xe_n hy (br_t rfl k))), fun post k => ye_y h0 (br_f n10 (ye_n hy (br_t rfl k)))⟩
  rcases hK with rfl | rfl
  · have n12 : ¬ nI 1 = 2 := by decide
    by_cases z : m1 = 0
    · subst z
      exact Or.inl ⟨m0, 0, h0, h1, rfl, rfl, fun post k => xe_y h0 (br_f n10 (xe_y h1 (br_f n10 (br_f n12 (br_t rfl k))))), fun post k => ye_y h0 (br_f n10 (ye_y h1 (br_f n10 (br_f n12 (br_t rfl k)))))⟩
    · have z' : ¬ nI m1 = 0 := nI_ne0 (by omega) (by omega)
      exact Or.inr ⟨fun post k => xe_y h0 (br_f n10 (xe_y h1 (br_f n10 (br_f n12 (br_f z' k))))), fun post k => ye_y h0 (br_f n10 (ye_y h1 (br_f n10 (br_f n12 (br_f z' k)))))⟩
  · exact Or.inl ⟨m0, m1, h0, h1, rfl, rfl, fun post k => xe_y h0 (br_f n10 (xe_y h1 (br_f n10 (br_t rfl k)))), fun post k => ye_y h0 (br_f n10 (ye_y h1 (br_f n10 (br_t rfl k))))⟩
theorem yen {post : Int32 → SY → Prop} {fk : Int32} {aw ac am ah : Nat → Int32} {m0 m1 : Nat} (h0 : m0 < 32) (h1 : m1 < 32) (hm : ∀ post : Int32 → Prop, post 1 → wpY_isMessage post (fk, aw, ac, am, ah) (nI m0) (nI m1)) (k : ∀ ac', post 0 (fk, rc_uw aw (rc_cs m0 m1) 5, ac', am, ah)) : wpY_encode post (fk, aw, ac, am, ah) (nI m0) (nI m1) := by
  unfold wpY_encode
  dsimp only
  exact hm _ (br_f (by decide) (ycw h0 h1 (fun ac' hc => ⟨6, yen_loop hc (k ac') 5 0 rfl⟩)))
