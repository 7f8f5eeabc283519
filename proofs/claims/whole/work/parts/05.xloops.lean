/-! ===== the component's searches and counts ===== -/
def rc_Dn (w : Nat → Nat) (n : Nat) : Nat := rc_D w (n % 32) (n / 32)
theorem xmw_some {post : Int32 → SX → Prop} {fs fr : Int32} {aw : Nat → Int32} {w : Nat → Nat} {c lim m : Nat} (hc : c ≤ 1024) (hl : lim ≤ 5) (hw : ∀ j, j < 5 → w j < 32 ∧ aw j = nI (w j)) (hm : m < c) (hD : rc_Dn w m ≤ lim) (hmin : ∀ m', m' < m → lim < rc_Dn w m') (k : ∀ r', post (nI m) (fs, nI c, fr, aw, r')) : ∀ d i (r : Nat → Int32), i + d = m → wX_messageWithin_2 post (nI lim) (d + 1) (nI i) fs (nI c) fr aw r := by
  intro d
  induction d with
  | zero =>
    intro i r hi
    have : i = m := by omega
    subst this
    have h5 := rc_D_le w (i % 32) (i / 32)
    refine br_f (nI_ge (b := c) (by omega) (by omega)) (xfe (by omega) (xse (by omega) (xwd (by omega) (by omega) hw (fun r' => ?_))))
    exact br_f (nI_nlt (show rc_D w (i % 32) (i / 32) ≤ lim from hD) (by omega)) (k r')
  | succ d ih =>
    intro i r hi
    have h5 := rc_D_le w (i % 32) (i / 32)
    refine br_f (nI_ge (b := c) (by omega) (by omega)) (xfe (by omega) (xse (by omega) (xwd (by omega) (by omega) hw (fun r' => ?_))))
    exact br_t (nI_lt (show lim < rc_D w (i % 32) (i / 32) from hmin i (by omega)) (by omega)) (nm_r (nI_1 i) (ih (i + 1) r' (by omega)))
theorem xmw_none {post : Int32 → SX → Prop} {fs fr : Int32} {aw : Nat → Int32} {w : Nat → Nat} {c lim : Nat} (hc : c ≤ 1024) (hl : lim ≤ 5) (hw : ∀ j, j < 5 → w j < 32 ∧ aw j = nI (w j)) (hmin : ∀ m', m' < c → lim < rc_Dn w m') (k : ∀ r', post (-4) (fs, nI c, fr, aw, r')) : ∀ d i (r : Nat → Int32), i + d = c → wX_messageWithin_2 post (nI lim) (d + 1) (nI i) fs (nI c) fr aw r := by
  intro d
  induction d with
  | zero =>
    intro i r hi
    exact br_t (nI_le (by omega) (by omega)) (k r)
  | succ d ih =>
    intro i r hi
    have h5 := rc_D_le w (i % 32) (i / 32)
    refine br_f (nI_ge (b := c) (by omega) (by omega)) (xfe (by omega) (xse (by omega) (xwd (by omega) (by omega) hw (fun r' => ?_))))
    exact br_t (nI_lt (show lim < rc_D w (i % 32) (i / 32) from hmin i (by omega)) (by omega)) (nm_r (nI_1 i) (ih (i + 1) r' (by omega)))
theorem xmS {post : Int32 → SX → Prop} {fs fr : Int32} {aw r : Nat → Int32} {w : Nat → Nat} {c lim m : Nat} (hc : c ≤ 1024) (hl : lim ≤ 5) (hw : ∀ j, j < 5 → w j < 32 ∧ aw j = nI (w j)) (hm : m < c) (hD : rc_Dn w m ≤ lim) (hmin : ∀ m', m' < m → lim < rc_Dn w m') (k : ∀ r', post (nI m) (fs, nI c, fr, aw, r')) : wpX_messageWithin post (fs, nI c, fr, aw, r) (nI lim) := ⟨m + 1, xmw_some hc hl hw hm hD hmin k m 0 r (by omega)⟩
theorem xmN {post : Int32 → SX → Prop} {fs fr : Int32} {aw r : Nat → Int32} {w : Nat → Nat} {c lim : Nat} (hc : c ≤ 1024) (hl : lim ≤ 5) (hw : ∀ j, j < 5 → w j < 32 ∧ aw j = nI (w j)) (hmin : ∀ m', m' < c → lim < rc_Dn w m') (k : ∀ r', post (-4) (fs, nI c, fr, aw, r')) : wpX_messageWithin post (fs, nI c, fr, aw, r) (nI lim) := ⟨c + 1, xmw_none hc hl hw hmin k c 0 r (by omega)⟩
def rc_pn (w : Nat → Nat) (n : Nat) : Nat := rc_pl w (rc_cs (n % 32) (n / 32)) 5
theorem rc_pn_lt (w : Nat → Nat) (n : Nat) : rc_pn w n < 32 := rc_pl_lt _ _ 5 (by decide)
theorem xdp_loop {post : Int32 → Prop} {fs fc fr : Int32} {aw ar : Nat → Int32} {m0 m1 : Nat} {w : Nat → Nat} (h0 : m0 < 32) (h1 : m1 < 32) (hw : ∀ j, j < 5 → w j < 32 ∧ aw j = nI (w j)) (k : post (nI (rc_pl w (rc_cs m0 m1) 5))) : ∀ d i, i + d = 5 → wX_differingPlaces_16 post (nI m0) (nI m1) fs fc fr aw ar (d + 1) (nI (rc_pl w (rc_cs m0 m1) i)) (nI i) := by
  intro d
  induction d with
  | zero =>
    intro i hi
    have : i = 5 := by omega
    subst this
    exact br_t (by decide) k
  | succ d ih =>
    intro i hi
    have hc := rc_cs_lt i h0 h1
    have hwi := (hw i (by omega)).1
    refine br_f (nI_ge (b := 5) (by omega) (by decide)) ⟨vp_in_nI (by omega) (by decide), xcs h0 h1 (by omega) ?_⟩
    rw [nI_clamp (show i < 2 ^ 31 by omega), (hw i (by omega)).2]
    have e2 : ¬ w i = rc_cs m0 m1 i → nI (rc_pl w (rc_cs m0 m1) i) ||| ((1 : Int32) <<< (nI i &&& 31)) = nI (rc_pl w (rc_cs m0 m1) (i + 1)) := by
      intro z
      have e : rc_pl w (rc_cs m0 m1) (i + 1) = rc_pl w (rc_cs m0 m1) i ||| 2 ^ i := if_neg z
      rw [e, rc_1sh i (by omega), nx_or]
    refine pk_eq (w i) (rc_cs m0 m1 i) (fun z => nm_r (nI_1 i) ?_) (fun z => nm_r (e2 z) (nm_r (nI_1 i) (ih (i + 1) (by omega))))
    have e : rc_pl w (rc_cs m0 m1) (i + 1) = rc_pl w (rc_cs m0 m1) i := if_pos z
    rw [← e]
    exact ih (i + 1) (by omega)
theorem xdp {post : Int32 → Prop} {fs fc fr : Int32} {aw ar : Nat → Int32} {w : Nat → Nat} {n : Nat} (hn : n < 1024) (hw : ∀ j, j < 5 → w j < 32 ∧ aw j = nI (w j)) (k : post (nI (rc_pn w n))) : wpX_differingPlaces post (fs, fc, fr, aw, ar) (nI n) := by
  unfold wpX_differingPlaces
  dsimp only
  exact xfe hn (xse hn ⟨6, xdp_loop (by omega) (by omega) hw k 5 0 rfl⟩)
theorem xsa_loop {post : Int32 → Prop} {p : Nat} (k : ∀ V, (∀ S, S < 32 → (bt V S = true ↔ rc_sb p S)) → post V) : ∀ d i (V : Int32), i + d = 32 → (∀ S, S < 32 → (bt V S = true ↔ S < i ∧ rc_sb p S)) → wX_setsAround_4 post (nI p) (d + 1) V (nI i) := by
  intro d
  induction d with
  | zero =>
    intro i V hi h
    have : i = 32 := by omega
    subst this
    exact br_t (by decide) (k V (fun S hS => (h S hS).trans ⟨fun z => z.2, fun z => ⟨hS, z⟩⟩))
  | succ d ih =>
    intro i V hi h
    refine br_f (nI_ge (b := 32) (by omega) (by decide)) (br_c (fun z => ?_) (fun z => ?_))
    · refine nm_e (nm_r (nI_1 i) (ih (i + 1) _ (by omega) (fun S hS => ?_)))
      rw [rc_or V (show i < 32 by omega) hS, h S hS]
      constructor
      · rintro (⟨a, b⟩ | a)
        · exact ⟨by omega, b⟩
        · subst a; exact ⟨by omega, z⟩
      · rintro ⟨a, b⟩
        rcases Nat.lt_or_ge S i with y | y
        · exact Or.inl ⟨y, b⟩
        · exact Or.inr (by omega)
    · refine nm_r (nI_1 i) (ih (i + 1) _ (by omega) (fun S hS => ?_))
      rw [h S hS]
      constructor
      · rintro ⟨a, b⟩
        exact ⟨by omega, b⟩
      · rintro ⟨a, b⟩
        rcases Nat.lt_or_ge S i with y | y
        · exact ⟨y, b⟩
        · have : S = i := by omega
          subst this
          exact absurd b z
theorem xsa {post : Int32 → Prop} {p : Nat} (k : ∀ V, (∀ S, S < 32 → (bt V S = true ↔ rc_sb p S)) → post V) : wpX_setsAround post (nI p) := ⟨33, xsa_loop k 32 0 0 rfl (fun S hS => by rw [b_0]; exact ⟨fun z => (nomatch z), fun z => absurd z.1 (Nat.not_lt_zero S)⟩)⟩
theorem xco2 {post : Int32 → Prop} {fs fc fr : Int32} {aw ar : Nat → Int32} {C : Int32} (k : post (nI (rc_ct (bt C) 32))) : ∀ d i, i + d = 32 → wX_coverings_35 post C fs fc fr aw ar (d + 1) (nI (rc_ct (bt C) i)) (nI i) := by
  intro d
  induction d with
  | zero =>
    intro i hi
    have : i = 32 := by omega
    subst this
    exact br_t (by decide) k
  | succ d ih =>
    intro i hi
    refine br_f (nI_ge (b := 32) (by omega) (by decide)) ?_
    rw [rc_bu C (show i < 32 by omega)]
    have e : nI (rc_ct (bt C) i) + (if bt C i = true then 1 else 0) = nI (rc_ct (bt C) (i + 1)) := by
      show _ = nI (if bt C i = true then rc_ct (bt C) i + 1 else rc_ct (bt C) i)
      by_cases z : bt C i = true
      · rw [if_pos z, if_pos z, nI_1]
      · rw [if_neg z, if_neg z, Int32.add_zero]
    exact nm_r e (nm_r (nI_1 i) (ih (i + 1) (by omega)))
theorem xco1 {post : Int32 → Prop} {fs fr : Int32} {aw ar : Nat → Int32} {w : Nat → Nat} {c : Nat} (hc : c ≤ 1024) (hw : ∀ j, j < 5 → w j < 32 ∧ aw j = nI (w j)) (k : ∀ P : Nat → Bool, (∀ S, S < 32 → (P S = true ↔ ∃ m, m < c ∧ rc_sb (rc_pn w m) S)) → post (nI (rc_ct P 32))) : ∀ d i (C : Int32), i + d = c → (∀ S, S < 32 → (bt C S = true ↔ ∃ m, m < i ∧ rc_sb (rc_pn w m) S)) → wX_coverings_4 post fs (nI c) fr aw ar (d + 1) C (nI i) := by
  intro d
  induction d with
  | zero =>
    intro i C hi h
    have : i = c := by omega
    subst this
    exact br_t (nI_le (by omega) (by omega)) ⟨33, xco2 (k (bt C) h) 32 0 rfl⟩
  | succ d ih =>
    intro i C hi h
    refine br_f (nI_ge (b := c) (by omega) (by omega)) (xdp (by omega) hw (xsa (fun V hV => ?_)))
    refine nm_e (nm_r (nI_1 i) (ih (i + 1) _ (by omega) (fun S hS => ?_)))
    rw [b_or, Bool.or_eq_true, h S hS, hV S hS]
    constructor
    · rintro (⟨m, a, b⟩ | a)
      · exact ⟨m, by omega, b⟩
      · exact ⟨i, by omega, a⟩
    · rintro ⟨m, a, b⟩
      rcases Nat.lt_or_ge m i with y | y
      · exact Or.inl ⟨m, y, b⟩
      · have : m = i := by omega
        subst this
        exact Or.inr b
theorem xco {post : Int32 → Prop} {fs fr : Int32} {aw ar : Nat → Int32} {w : Nat → Nat} {c : Nat} (hc : c ≤ 1024) (hw : ∀ j, j < 5 → w j < 32 ∧ aw j = nI (w j)) (k : ∀ P : Nat → Bool, (∀ S, S < 32 → (P S = true ↔ ∃ m, m < c ∧ rc_sb (rc_pn w m) S)) → post (nI (rc_ct P 32))) : wpX_coverings post (fs, nI c, fr, aw, ar) := ⟨c + 1, xco1 hc hw k c 0 0 (by omega) (fun S hS => by rw [b_0]; exact ⟨fun z => (nomatch z), fun ⟨m, a, _⟩ => absurd a (Nat.not_lt_zero m)⟩)⟩
def rc_cp (x : Int32) (n : Nat) : Bool := decide (nI (rc_er 5 (rc_cs (n % 32) (n / 32))) = x)
theorem xce_loop {post : Int32 → SX → Prop} {fs fr : Int32} {aw : Nat → Int32} {c : Nat} {x : Int32} (hc : c ≤ 1024) (k : ∀ r', post (nI (rc_ct (rc_cp x) c)) (fs, nI c, fr, aw, r')) : ∀ d i (r : Nat → Int32), i + d = c → wX_census_4 post x (d + 1) (nI (rc_ct (rc_cp x) i)) (nI i) fs (nI c) fr aw r := by
  intro d
  induction d with
  | zero =>
    intro i r hi
    have : i = c := by omega
    subst this
    exact br_t (nI_le (by omega) (by omega)) (k r)
  | succ d ih =>
    intro i r hi
    refine br_f (nI_ge (b := c) (by omega) (by omega)) (xcr (by omega) (fun r' => br_c (fun z => ?_) (fun z => ?_)))
    · have e : rc_ct (rc_cp x) (i + 1) = rc_ct (rc_cp x) i + 1 := if_pos (decide_eq_true z)
      have h := ih (i + 1) r' (by omega)
      rw [e] at h
      exact nm_r (nI_1 _) (nm_r (nI_1 i) h)
    · have e : rc_ct (rc_cp x) (i + 1) = rc_ct (rc_cp x) i := if_neg (fun y => z (of_decide_eq_true y))
      have h := ih (i + 1) r' (by omega)
      rw [e] at h
      exact nm_r (nI_1 i) h
theorem xce {post : Int32 → SX → Prop} {fs fr : Int32} {aw r : Nat → Int32} {c : Nat} {x : Int32} (hc : c ≤ 1024) (k : ∀ r', post (nI (rc_ct (rc_cp x) c)) (fs, nI c, fr, aw, r')) : wpX_census post (fs, nI c, fr, aw, r) x := ⟨c + 1, xce_loop hc k c 0 r (by omega)⟩
/-- over: the last x with b times x = a -/
def rc_ov (a b : Nat) : Nat → Nat
  | 0 => 0
  | i + 1 => if rc_pr b i = a then i else rc_ov a b i
theorem xov_loop {post : Int32 → Prop} {fs fc fr : Int32} {aw ar : Nat → Int32} {a b : Nat} (ha : a < 32) (hb : b < 32) (k : post (nI (rc_ov a b 32))) : ∀ d i, i + d = 32 → wX_over_25 post (nI a) (nI b) fs fc fr aw ar (d + 1) (nI (rc_ov a b i)) (nI i) := by
  intro d
  induction d with
  | zero =>
    intro i hi
    have : i = 32 := by omega
    subst this
    exact br_t (by decide) k
  | succ d ih =>
    intro i hi
    have hp := rc_pr_lt i hb
    refine br_f (nI_ge (b := 32) (by omega) (by decide)) (xp hb (by omega) (pk_eq (rc_pr b i) a (fun z => ?_) (fun z => ?_)))
    · have e : rc_ov a b (i + 1) = i := if_pos z
      have h := ih (i + 1) (by omega)
      rw [e] at h
      exact nm_r (nI_1 i) h
    · have e : rc_ov a b (i + 1) = rc_ov a b i := if_neg z
      have h := ih (i + 1) (by omega)
      rw [e] at h
      exact nm_r (nI_1 i) h
/-- disturb: the word after the first i places -/
def rc_dw (aw : Nat → Int32) (a s : Nat) : Nat → (Nat → Int32)
  | 0 => aw
  | i + 1 => if s / 2 ^ i % 2 = 1 then upd (rc_dw aw a s i) i (rc_dw aw a s i i ^^^ nI a) else rc_dw aw a s i
theorem xdi_loop {post : Int32 → SX → Prop} {fs fc fr : Int32} {aw ar : Nat → Int32} {a s : Nat} (hs : s < 32) (k : wpX_wordDistance post (fs, fc, fr, rc_dw aw a s 5, ar) 0 0) : ∀ d i, i + d = 5 → wX_disturb_18 post (nI a) (nI s) fs fc fr (d + 1) (nI i) (rc_dw aw a s i) ar := by
  intro d
  induction d with
  | zero =>
    intro i hi
    have : i = 5 := by omega
    subst this
    exact br_t (by decide) k
  | succ d ih =>
    intro i hi
    refine br_f (nI_ge (b := 5) (by omega) (by decide)) (ek_if (rc_bitI (show s < 2 ^ 31 by omega) (show i < 32 by omega)) (fun z => ⟨vp_in_nI (by omega) (by decide), vp_in_nI (by omega) (by decide), ?_⟩) (fun z => ?_))
    · have e : rc_dw aw a s (i + 1) = upd (rc_dw aw a s i) i (rc_dw aw a s i i ^^^ nI a) := if_pos z
      have h := ih (i + 1) (by omega)
      rw [e] at h
      rw [nI_clamp (show i < 2 ^ 31 by omega)]
      exact nm_e (nm_r (nI_1 i) h)
    · have e : rc_dw aw a s (i + 1) = rc_dw aw a s i := if_neg z
      have h := ih (i + 1) (by omega)
      rw [e] at h
      exact nm_r (nI_1 i) h
/-- the disturbed word's symbols -/
def rc_dv (w : Nat → Nat) (a s : Nat) (j : Nat) : Nat := if s / 2 ^ j % 2 = 1 then w j ^^^ a else w j
theorem rc_dw_ge (aw : Nat → Int32) (a s : Nat) : ∀ i j, i ≤ j → rc_dw aw a s i j = aw j := by
  intro i
  induction i with
  | zero => intro j _; rfl
  | succ i ih =>
    intro j hj
    show (if s / 2 ^ i % 2 = 1 then upd (rc_dw aw a s i) i (rc_dw aw a s i i ^^^ nI a) else rc_dw aw a s i) j = aw j
    split
    · rw [pk_un (by omega)]; exact ih j (by omega)
    · exact ih j (by omega)
theorem rc_dw_lt (aw : Nat → Int32) (a s : Nat) {w : Nat → Nat} (hw : ∀ j, j < 5 → w j < 32 ∧ aw j = nI (w j)) : ∀ i j, j < i → i ≤ 5 → rc_dw aw a s i j = nI (rc_dv w a s j) := by
  intro i
  induction i with
  | zero => intro j hj; omega
  | succ i ih =>
    intro j hj hi
    show (if s / 2 ^ i % 2 = 1 then upd (rc_dw aw a s i) i (rc_dw aw a s i i ^^^ nI a) else rc_dw aw a s i) j = nI (rc_dv w a s j)
    by_cases h : j = i
    · subst h
      by_cases z : s / 2 ^ j % 2 = 1
      · rw [if_pos z, pk_us, rc_dw_ge aw a s j j (Nat.le_refl j), (hw j (by omega)).2, nx_xor]
        exact congrArg nI (if_pos z).symm
      · rw [if_neg z, rc_dw_ge aw a s j j (Nat.le_refl j), (hw j (by omega)).2]
        exact congrArg nI (if_neg z).symm
    · split
      · rw [pk_un h]; exact ih j (by omega) (by omega)
      · exact ih j (by omega) (by omega)
theorem rc_dv_lt {w : Nat → Nat} {a s j : Nat} (ha : a < 32) (hj : w j < 32) : rc_dv w a s j < 32 := by
  unfold rc_dv
  split
  · exact rc_x32 hj ha
  · exact hj
