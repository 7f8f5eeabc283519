/-! ===== helpers between Int32 and naturals ===== -/
theorem rc_bitI {b d : Nat} (hb : b < 2 ^ 31) (hd : d < 32) : ((nI b >>> (nI d &&& 31)) &&& 1) = 1 ↔ b / 2 ^ d % 2 = 1 := by
  have h2 : b / 2 ^ d ≤ b := Nat.div_le_self _ _
  rw [pk_shrN hb (nI d &&& 31) d (s_l d hd)]
  generalize b / 2 ^ d = z at h2 ⊢
  rw [pk_andN (show z < 2 ^ 32 by omega) 1 (by decide)]
  show nI (z % 2) = nI 1 ↔ _
  exact nI_eq (by omega) (by decide)
theorem rc_sh1 {s : Nat} (hs : s < 512) : nI s <<< ((1 : Int32) &&& 31) = nI (s * 2) := pk_shlN ((1 : Int32) &&& 31) 1 (by decide) (by omega)
theorem rc_tt {x : Bool} (h : ¬ x = false) : x = true := by cases x <;> first | rfl | exact absurd rfl h
theorem rc_ng {x : Int32} {n : Nat} (hn : n < 2 ^ 31) (h : nI n ≤ x) : ¬ x < 0 := by
  rw [Int32.le_iff_toInt_le, nI_toInt hn] at h
  rw [Int32.lt_iff_toInt_lt, show (0 : Int32).toInt = 0 from by decide]
  omega
theorem rc_gt {x : Int32} {n : Nat} (hn : n + 1 < 2 ^ 31) (h : nI (n + 1) ≤ x) : nI n < x := by
  rw [Int32.le_iff_toInt_le, nI_toInt hn] at h
  rw [Int32.lt_iff_toInt_lt, nI_toInt (by omega)]
  omega
def rc_uw (a : Nat → Int32) (c : Nat → Nat) : Nat → (Nat → Int32)
  | 0 => a
  | i + 1 => upd (rc_uw a c i) i (nI (c i))
theorem rc_uw_lt (a : Nat → Int32) (c : Nat → Nat) : ∀ i j, j < i → rc_uw a c i j = nI (c j) := by
  intro i
  induction i with
  | zero => intro j hj; omega
  | succ i ih =>
    intro j hj
    show upd (rc_uw a c i) i (nI (c i)) j = nI (c j)
    by_cases h : j = i
    · subst h; exact pk_us
    · rw [pk_un h]; exact ih j (by omega)
/-! ===== the component's walks ===== -/
theorem xp_loop {post : Int32 → Prop} {a b : Nat} (ha : a < 32) (hb : b < 32) : ∀ r s, r ≤ 5 → s < 32 → post (nI (rc_pd a b r s)) → wX_product_4 post (nI a) (nI b) (r + 1) (nI s) (nI r + (-1)) := by
  intro r
  induction r with
  | zero =>
    intro s _ hs hp
    exact br_t (by decide) hp
  | succ r ih =>
    intro s hr hs hp
    rw [pk_m1]
    have key : wX_product_23 post (wX_product_4 post (nI a) (nI b) (r + 1)) (nI a) (nI b) (nI (rc_t s)) (nI r) := by
      unfold wX_product_23
      by_cases h : b / 2 ^ r % 2 = 1
      · have e : rc_h a b r s = rc_t s ^^^ a := if_pos h
        refine br_t ((rc_bitI (by omega) (by omega)).mpr h) (nm_r (nx_xor _ _) (nm_e ?_))
        rw [← e]
        exact ih _ (by omega) (rc_h_lt ha hs) hp
      · have e : rc_h a b r s = rc_t s := if_neg h
        refine br_f (fun z => h ((rc_bitI (by omega) (by omega)).mp z)) (nm_e ?_)
        rw [← e]
        exact ih _ (by omega) (rc_h_lt ha hs) hp
    refine br_f (nI_pos (by omega)) (nm_r (rc_sh1 (by omega)) (pk_lt (s * 2) 32 (fun h => ?_) (fun h => nm_r (nx_xor (s * 2) 37) ?_)))
    · have e : rc_t s = s * 2 := if_neg (by omega)
      rw [e] at key
      exact key
    · have e : rc_t s = s * 2 ^^^ 37 := if_pos h
      rw [e] at key
      exact key
theorem xp {post : Int32 → Prop} {a b : Nat} (ha : a < 32) (hb : b < 32) (k : post (nI (rc_pr a b))) : wpX_product post (nI a) (nI b) := by
  have h := xp_loop ha hb 5 0 (by decide) (by decide) k
  rw [show nI 5 + (-1) = 4 from by decide] at h
  exact ⟨6, h⟩
theorem xe_n {post : Int32 → Prop} {x : Int32} (h : x < 0 ∨ nI 32 ≤ x) (k : post 0) : wpX_isElement post x := h.elim (fun h => br_t h k) (fun h => br_f (rc_ng (by decide) h) (br_t h k))
theorem xe_y {post : Int32 → Prop} {a : Nat} (ha : a < 32) (k : post 1) : wpX_isElement post (nI a) := br_f (nI_pos (by omega)) (br_f (nI_ge (b := 32) ha (by decide)) k)
theorem xs_n {post : Int32 → Prop} {x : Int32} (h : x < 0 ∨ nI 32 ≤ x) (k : post 0) : wpX_isSet post x := h.elim (fun h => br_t h k) (fun h => br_f (rc_ng (by decide) h) (br_t h k))
theorem xs_y {post : Int32 → Prop} {a : Nat} (ha : a < 32) (k : post 1) : wpX_isSet post (nI a) := br_f (nI_pos (by omega)) (br_f (nI_ge (b := 32) ha (by decide)) k)
theorem xl_n {post : Int32 → Prop} {x : Int32} (h : x < 0 ∨ nI 5 ≤ x) (k : post 0) : wpX_isPlace post x := h.elim (fun h => br_t h k) (fun h => br_f (rc_ng (by decide) h) (br_t h k))
theorem xl_y {post : Int32 → Prop} {a : Nat} (ha : a < 5) (k : post 1) : wpX_isPlace post (nI a) := br_f (nI_pos (by omega)) (br_f (nI_ge (b := 5) ha (by decide)) k)
theorem xcs {post : Int32 → Prop} {m0 m1 i : Nat} (h0 : m0 < 32) (h1 : m1 < 32) (hi : i < 5) (k : post (nI (rc_cs m0 m1 i))) : wpX_codeSymbol post (nI m0) (nI m1) (nI i) := by
  unfold wpX_codeSymbol
  refine nm_r (rc_1sh i (by omega)) ?_
  refine xp (rc_p2 i hi) (rc_p2 i hi) ?_
  refine xp h0 (rc_p2 i hi) ?_
  refine xp h1 (rc_pr_lt _ (rc_p2 i hi)) ?_
  exact ek_v (P := post) (nx_xor _ _) k
theorem xw_loop {post : SX → Prop} {m0 m1 : Nat} {fs fc fr : Int32} {aw ar : Nat → Int32} (h0 : m0 < 32) (h1 : m1 < 32) (k : post (fs, fc, fr, rc_uw aw (rc_cs m0 m1) 5, ar)) : ∀ d i, i + d = 5 → wX_writeCodeWord_2 post (nI m0) (nI m1) fs fc fr (d + 1) (nI i) (rc_uw aw (rc_cs m0 m1) i) ar := by
  intro d
  induction d with
  | zero =>
    intro i hi
    have : i = 5 := by omega
    subst this
    exact br_t (by decide) k
  | succ d ih =>
    intro i hi
    refine br_f (nI_ge (b := 5) (by omega) (by decide)) (xcs h0 h1 (by omega) ⟨vp_in_nI (by omega) (by decide), ?_⟩)
    rw [nI_clamp (show i < 2 ^ 31 by omega)]
    exact nm_e (nm_r (nI_1 i) (ih (i + 1) (by omega)))
theorem xw {post : SX → Prop} {m0 m1 : Nat} {fs fc fr : Int32} {aw ar : Nat → Int32} (h0 : m0 < 32) (h1 : m1 < 32) (k : post (fs, fc, fr, rc_uw aw (rc_cs m0 m1) 5, ar)) : wpX_writeCodeWord post (fs, fc, fr, aw, ar) (nI m0) (nI m1) := ⟨6, xw_loop h0 h1 k 5 0 rfl⟩
theorem xcb_loop {post : SX → Prop} {fs fc fr : Int32} {aw : Nat → Int32} {i : Nat} {g : Nat → Nat} (hi : i < 5) (hg : ∀ j, i ≤ j → j < 5 → g j < 32) (h0 : g i ≠ 0) (k : ∀ r', (∀ j, i < j → j < 5 → r' j = nI (rc_cl (g i) (g j))) → post (fs, fc, fr, aw, r')) : ∀ d j (r : Nat → Int32), j + d = 5 → i < j → r i = nI (g i) → (∀ t, j ≤ t → t < 5 → r t = nI (g t)) → (∀ t, i < t → t < j → r t = nI (rc_cl (g i) (g t))) → wX_clearBelow_19 post (nI i) (nI (g i) &&& (-(nI (g i)))) fs fc fr (d + 1) (nI j) aw r := by
  intro d
  induction d with
  | zero =>
    intro j r hj hij e0 h1 h2
    have : j = 5 := by omega
    subst this
    exact br_t (by decide) (k r h2)
  | succ d ih =>
    intro j r hj hij e0 h1 h2
    have hv := hg i (Nat.le_refl i) hi
    have hx := hg j (by omega) (by omega)
    have ej := h1 j (Nat.le_refl j) (by omega)
    have low := rc_lo_i (g i) hv h0 (g j) hx
    refine br_f (nI_ge (b := 5) (by omega) (by decide)) ⟨vp_in_nI (by omega) (by decide), ?_⟩
    rw [nI_clamp (show j < 2 ^ 31 by omega), nI_clamp (show i < 2 ^ 31 by omega), ej, e0]
    refine ek_if low (fun z => ?_) (fun z => ?_)
    · refine nm_r (nI_1 j) ?_
      refine ih (j + 1) r (by omega) (by omega) e0 (fun t a b => h1 t (by omega) b) (fun t a b => ?_)
      rcases Nat.lt_or_ge t j with y | y
      · exact h2 t a y
      · have : t = j := by omega
        subst this
        have e : rc_cl (g i) (g t) = g t := if_neg (by rw [z]; decide)
        rw [ej, e]
    · have z' := rc_tt z
      have e : rc_cl (g i) (g j) = g j ^^^ g i := if_pos z'
      refine ⟨vp_in_nI (by omega) (by decide), vp_in_nI (by omega) (by decide), vp_in_nI (by omega) (by decide), ?_⟩
      rw [nx_xor]
      refine nm_e (nm_r (nI_1 j) ?_)
      refine ih (j + 1) (upd r j (nI (g j ^^^ g i))) (by omega) (by omega) ((pk_un (by omega)).trans e0) (fun t a b => (pk_un (by omega)).trans (h1 t (by omega) b)) (fun t a b => ?_)
      rcases Nat.lt_or_ge t j with y | y
      · rw [pk_un (by omega)]
        exact h2 t a y
      · have : t = j := by omega
        subst this
        rw [pk_us, e]
theorem xcb {post : SX → Prop} {fs fc fr : Int32} {aw r : Nat → Int32} {i : Nat} {g : Nat → Nat} (hi : i < 5) (hg : ∀ j, i ≤ j → j < 5 → g j < 32) (h0 : g i ≠ 0) (hr : ∀ j, i ≤ j → j < 5 → r j = nI (g j)) (k : ∀ r', (∀ j, i < j → j < 5 → r' j = nI (rc_cl (g i) (g j))) → post (fs, fc, fr, aw, r')) : wpX_clearBelow post (fs, fc, fr, aw, r) (nI i) := by
  have e0 := hr i (Nat.le_refl i) hi
  unfold wpX_clearBelow
  dsimp only
  refine ⟨vp_in_nI hi (by decide), vp_in_nI hi (by decide), ?_⟩
  rw [nI_clamp (show i < 2 ^ 31 by omega), e0]
  exact nm_e (nm_r (nI_1 i) ⟨4 - i + 1, xcb_loop hi hg h0 k (4 - i) (i + 1) r (by omega) (by omega) e0 (fun t a b => hr t (by omega) b) (fun t a b => by omega)⟩)
theorem xrk_loop {post : Int32 → SX → Prop} {fs fc fr : Int32} {aw : Nat → Int32} : ∀ d i F (g : Nat → Nat) (r : Nat → Int32), i + d = 5 → (∀ j, i ≤ j → j < 5 → g j < 32 ∧ r j = nI (g j)) → (∀ r', post (nI (F + rc_er d (fun j => g (i + j)))) (fs, fc, fr, aw, r')) → wX_rankOfRows_4 post (d + 1) (nI F) (nI i) fs fc fr aw r := by
  intro d
  induction d with
  | zero =>
    intro i F g r hi h k
    have : i = 5 := by omega
    subst this
    exact br_t (by decide) (k r)
  | succ d ih =>
    intro i F g r hi h k
    obtain ⟨hv, ei⟩ := h i (Nat.le_refl i) (by omega)
    refine br_f (nI_ge (b := 5) (by omega) (by decide)) ⟨vp_in_nI (by omega) (by decide), ?_⟩
    rw [nI_clamp (show i < 2 ^ 31 by omega), ei]
    refine pk_eq (g i) 0 (fun z => nm_r (nI_1 i) ?_) (fun z => nm_r (nI_1 F) ?_)
    · refine ih (i + 1) F g r (by omega) (fun j a b => h j (by omega) b) (fun r' => ?_)
      have e : rc_er (d + 1) (fun j => g (i + j)) = rc_er d (fun j => g (i + 1 + j)) := (rc_er_s0 (show g (i + 0) = 0 from z)).trans (rc_er_ext _ _ _ (fun j _ => show g (i + (j + 1)) = g (i + 1 + j) by rw [show i + (j + 1) = i + 1 + j by omega]))
      rw [← e]
      exact k r'
    · refine xcb (g := g) (by omega) (fun j a b => (h j a b).1) z (fun j a b => (h j a b).2) (fun r' hr' => ?_)
      refine nm_r (nI_1 i) ?_
      refine ih (i + 1) (F + 1) (fun j => rc_cl (g i) (g j)) r' (by omega) (fun j a b => ⟨rc_cl_lt hv (h j (by omega) b).1, hr' j (by omega) b⟩) (fun r'' => ?_)
      have e : rc_er (d + 1) (fun j => g (i + j)) = rc_er d (fun j => rc_cl (g i) (g (i + 1 + j))) + 1 := (rc_er_s1 (show ¬ g (i + 0) = 0 from z)).trans (congrArg (fun t => t + 1) (rc_er_ext _ _ _ (fun j _ => show rc_cl (g i) (g (i + (j + 1))) = rc_cl (g i) (g (i + 1 + j)) by rw [show i + (j + 1) = i + 1 + j by omega])))
      have k' := k r''
      rw [e, show F + (rc_er d (fun j => rc_cl (g i) (g (i + 1 + j))) + 1) = F + 1 + rc_er d (fun j => rc_cl (g i) (g (i + 1 + j))) by omega] at k'
      exact k'
theorem xrk {post : Int32 → SX → Prop} {fs fc fr : Int32} {aw r : Nat → Int32} {g : Nat → Nat} (h : ∀ j, j < 5 → g j < 32 ∧ r j = nI (g j)) (k : ∀ r', post (nI (rc_er 5 g)) (fs, fc, fr, aw, r')) : wpX_rankOfRows post (fs, fc, fr, aw, r) := by
  refine ⟨6, xrk_loop 5 0 0 g r rfl (fun j _ b => h j b) (fun r' => ?_)⟩
  have e : rc_er 5 (fun j => g (0 + j)) = rc_er 5 g := rc_er_ext _ _ _ (fun j _ => show g (0 + j) = g j by rw [Nat.zero_add])
  rw [e, Nat.zero_add]
  exact k r'
theorem xwd_loop {post : Int32 → SX → Prop} {fs fc fr : Int32} {aw : Nat → Int32} {m0 m1 : Nat} {w : Nat → Nat} (h0 : m0 < 32) (h1 : m1 < 32) (hw : ∀ j, j < 5 → w j < 32 ∧ aw j = nI (w j)) (k : ∀ r', post (nI (rc_D w m0 m1)) (fs, fc, fr, aw, r')) : ∀ d i (r : Nat → Int32), i + d = 5 → (∀ j, j < i → r j = nI (w j ^^^ rc_cs m0 m1 j)) → wX_wordDistance_2 post (nI m0) (nI m1) fs fc fr (d + 1) (nI i) aw r := by
  intro d
  induction d with
  | zero =>
    intro i r hi hr
    have : i = 5 := by omega
    subst this
    exact br_t (by decide) (xrk (g := fun j => w j ^^^ rc_cs m0 m1 j) (fun j b => ⟨rc_x32 (hw j b).1 (rc_cs_lt j h0 h1), hr j b⟩) k)
  | succ d ih =>
    intro i r hi hr
    refine br_f (nI_ge (b := 5) (by omega) (by decide)) ⟨vp_in_nI (by omega) (by decide), xcs h0 h1 (by omega) ⟨vp_in_nI (by omega) (by decide), ?_⟩⟩
    rw [nI_clamp (show i < 2 ^ 31 by omega), (hw i (by omega)).2, nx_xor]
    refine nm_e (nm_r (nI_1 i) (ih (i + 1) _ (by omega) (fun j b => ?_)))
    by_cases h : j = i
    · subst h; exact pk_us
    · rw [pk_un h]; exact hr j (by omega)
theorem xwd {post : Int32 → SX → Prop} {fs fc fr : Int32} {aw r : Nat → Int32} {m0 m1 : Nat} {w : Nat → Nat} (h0 : m0 < 32) (h1 : m1 < 32) (hw : ∀ j, j < 5 → w j < 32 ∧ aw j = nI (w j)) (k : ∀ r', post (nI (rc_D w m0 m1)) (fs, fc, fr, aw, r')) : wpX_wordDistance post (fs, fc, fr, aw, r) (nI m0) (nI m1) := ⟨6, xwd_loop h0 h1 hw k 5 0 r rfl (fun j hj => by omega)⟩
theorem xcr_loop {post : Int32 → SX → Prop} {fs fc fr : Int32} {aw : Nat → Int32} {m0 m1 : Nat} (h0 : m0 < 32) (h1 : m1 < 32) (k : ∀ r', post (nI (rc_er 5 (rc_cs m0 m1))) (fs, fc, fr, aw, r')) : ∀ d i (r : Nat → Int32), i + d = 5 → (∀ j, j < i → r j = nI (rc_cs m0 m1 j)) → wX_codeWordRank_13 post (nI m0) (nI m1) fs fc fr (d + 1) (nI i) aw r := by
  intro d
  induction d with
  | zero =>
    intro i r hi hr
    have : i = 5 := by omega
    subst this
    exact br_t (by decide) (xrk (g := rc_cs m0 m1) (fun j b => ⟨rc_cs_lt j h0 h1, hr j b⟩) k)
  | succ d ih =>
    intro i r hi hr
    refine br_f (nI_ge (b := 5) (by omega) (by decide)) (xcs h0 h1 (by omega) ⟨vp_in_nI (by omega) (by decide), ?_⟩)
    rw [nI_clamp (show i < 2 ^ 31 by omega)]
    refine nm_e (nm_r (nI_1 i) (ih (i + 1) _ (by omega) (fun j b => ?_)))
    by_cases h : j = i
    · subst h; exact pk_us
    · rw [pk_un h]; exact hr j (by omega)
theorem xfe {post : Int32 → Prop} {n : Nat} (hn : n < 1024) (k : post (nI (n % 32))) : wpX_firstElement post (nI n) := ⟨by decide, ek_v (P := post) (pk_rem (a := n) (d := 32) (by omega) (by decide) (by decide)) k⟩
theorem xse {post : Int32 → Prop} {n : Nat} (hn : n < 1024) (k : post (nI (n / 32))) : wpX_secondElement post (nI n) := ⟨by decide, ek_v (P := post) (pk_div (a := n) (d := 32) (by omega) (by decide) (by decide)) k⟩
theorem xcr {post : Int32 → SX → Prop} {fs fc fr : Int32} {aw r : Nat → Int32} {n : Nat} (hn : n < 1024) (k : ∀ r', post (nI (rc_er 5 (rc_cs (n % 32) (n / 32)))) (fs, fc, fr, aw, r')) : wpX_codeWordRank post (fs, fc, fr, aw, r) (nI n) := by
  unfold wpX_codeWordRank
  dsimp only
  exact xfe hn (xse hn ⟨6, xcr_loop (by omega) (by omega) k 5 0 r rfl (fun j hj => by omega)⟩)
