/-! ===== an Int32 as a set of elements ===== -/
theorem rc_b1 : ∀ i, i < 32 → bt 1 i = decide (i = 0) := by decide +kernel
theorem rc_bt1 (T : Int32) (c : Bool) (h0 : bt T 0 = c) : T &&& 1 = if c = true then 1 else 0 := by
  apply b_ext
  intro i hi
  rw [b_and, rc_b1 i hi]
  by_cases h : i = 0
  · subst h
    rw [h0]
    cases c <;> decide +kernel
  · rw [decide_eq_false h, Bool.and_false]
    cases c
    · exact (b_0 i).symm
    · show false = bt 1 i
      rw [rc_b1 i hi, decide_eq_false h]
theorem rc_bv (S : Int32) {x : Nat} (hx : x < 32) : (S >>> (nI x &&& 31)) &&& 1 = if bt S x = true then 1 else 0 := by
  apply rc_bt1
  rw [b_sshr x hx S (by decide), Nat.add_zero, if_pos hx]
theorem rc_bu (S : Int32) {x : Nat} (hx : x < 32) : ((S.toUInt32 >>> ((nI x).toUInt32 &&& Int32.toUInt32 31)).toInt32) &&& 1 = if bt S x = true then 1 else 0 := by
  apply rc_bt1
  rw [b_ushr x hx S 0, Nat.add_zero]
theorem rc_bv1 (S : Int32) {x : Nat} (hx : x < 32) : (S >>> (nI x &&& 31)) &&& 1 = 1 ↔ bt S x = true := by
  rw [rc_bv S hx]
  cases bt S x <;> decide
theorem rc_bv0 (S : Int32) {x : Nat} (hx : x < 32) : (S >>> (nI x &&& 31)) &&& 1 = 0 ↔ bt S x = false := by
  rw [rc_bv S hx]
  cases bt S x <;> decide
theorem rc_1s : ∀ y, y < 32 → ∀ i, i < 32 → bt ((1 : Int32) <<< (nI y &&& 31)) i = decide (i = y) := by decide +kernel
theorem rc_or (S : Int32) {x y : Nat} (hy : y < 32) (hx : x < 32) : bt (S ||| ((1 : Int32) <<< (nI y &&& 31))) x = true ↔ bt S x = true ∨ x = y := by
  rw [b_or, rc_1s y hy x hx, Bool.or_eq_true, decide_eq_true_eq]
/-! ===== the sums of symbols, as the second keeps them, against the elimination ===== -/
def rc_Sp (S : Int32) (red : Nat → Nat) : Prop := (∀ x, x < 32 → (bt S x = true ↔ red x = 0)) ∧ (∀ x, x < 32 → red x < 32) ∧ (∀ x, x < 32 → ∀ y, y < 32 → red (x ^^^ y) = red x ^^^ red y)
theorem rc_Sp0 : rc_Sp 1 (fun x => x) := ⟨fun x hx => by rw [rc_b1 x hx, decide_eq_true_eq], fun _ h => h, fun _ _ _ _ => rfl⟩
theorem rc_Sp1 {S S' : Int32} {red : Nat → Nat} {s : Nat} (h : rc_Sp S red) (hs : s < 32) (h0 : red s ≠ 0) (h' : ∀ y, y < 32 → (bt S' y = true ↔ bt S y = true ∨ bt S (y ^^^ s) = true)) : rc_Sp S' (fun x => rc_cl (red s) (red x)) := by
  obtain ⟨h1, h2, h3⟩ := h
  refine ⟨fun x hx => ?_, fun x hx => rc_cl_lt (h2 s hs) (h2 x hx), fun x hx y hy => ?_⟩
  · show bt S' x = true ↔ rc_cl (red s) (red x) = 0
    rw [h' x hx, h1 x hx, h1 (x ^^^ s) (rc_x32 hx hs), h3 x hx s hs, rc_x0, rc_cl_0 (h2 s hs) h0]
  · show rc_cl (red s) (red (x ^^^ y)) = rc_cl (red s) (red x) ^^^ rc_cl (red s) (red y)
    rw [h3 x hx y hy, rc_cl_x]
theorem rc_xs (y s : Nat) : (y ^^^ s) ^^^ s = y := by rw [Nat.xor_assoc, Nat.xor_self, Nat.xor_zero]
def rc_Mo (S M : Int32) (s i : Nat) : Prop := ∀ y, y < 32 → (bt M y = true ↔ bt S y = true ∨ ∃ x, x < i ∧ bt S x = true ∧ y = x ^^^ s)
theorem rc_Mo0 (S : Int32) (s : Nat) : rc_Mo S S s 0 := fun y _ => ⟨fun h => Or.inl h, fun h => h.elim (fun a => a) (fun ⟨x, hx, _⟩ => absurd hx (Nat.not_lt_zero x))⟩
theorem rc_MoS {S M : Int32} {s i : Nat} (h : rc_Mo S M s i) (hb : bt S i = false) : rc_Mo S M s (i + 1) := by
  intro y hy
  rw [h y hy]
  constructor
  · rintro (a | ⟨x, hx, hs, e⟩)
    · exact Or.inl a
    · exact Or.inr ⟨x, by omega, hs, e⟩
  · rintro (a | ⟨x, hx, hs, e⟩)
    · exact Or.inl a
    · rcases Nat.lt_or_ge x i with z | z
      · exact Or.inr ⟨x, z, hs, e⟩
      · have : x = i := by omega
        subst this
        rw [hb] at hs
        cases hs
theorem rc_MoA {S M : Int32} {s i : Nat} (h : rc_Mo S M s i) (hi : i < 32) (hs : s < 32) (hb : bt S i = true) : rc_Mo S (M ||| ((1 : Int32) <<< (nI (i ^^^ s) &&& 31))) s (i + 1) := by
  intro y hy
  rw [rc_or M (rc_x32 hi hs) hy, h y hy]
  constructor
  · rintro ((a | ⟨x, hx, hs, e⟩) | a)
    · exact Or.inl a
    · exact Or.inr ⟨x, by omega, hs, e⟩
    · exact Or.inr ⟨i, by omega, hb, a⟩
  · rintro (a | ⟨x, hx, hs, e⟩)
    · exact Or.inl (Or.inl a)
    · rcases Nat.lt_or_ge x i with z | z
      · exact Or.inl (Or.inr ⟨x, z, hs, e⟩)
      · have : x = i := by omega
        subst this
        exact Or.inr e
theorem rc_MoE {S M : Int32} {s : Nat} (h : rc_Mo S M s 32) (hs : s < 32) : ∀ y, y < 32 → (bt M y = true ↔ bt S y = true ∨ bt S (y ^^^ s) = true) := by
  intro y hy
  rw [h y hy]
  constructor
  · rintro (a | ⟨x, hx, hb, e⟩)
    · exact Or.inl a
    · subst e
      rw [rc_xs]
      exact Or.inr hb
  · rintro (a | a)
    · exact Or.inl a
    · exact Or.inr ⟨y ^^^ s, rc_x32 hy hs, a, (rc_xs y s).symm⟩
/-! ===== distances ===== -/
def rc_D (w : Nat → Nat) (m0 m1 : Nat) : Nat := rc_er 5 (fun i => w i ^^^ rc_cs m0 m1 i)
theorem rc_D_le (w : Nat → Nat) (m0 m1 : Nat) : rc_D w m0 m1 ≤ 5 := rc_er_le 5 _
theorem rc_D_uni {w : Nat → Nat} {a b a' b' : Nat} (ha : a < 32) (hb : b < 32) (ha' : a' < 32) (hb' : b' < 32) (h : rc_D w a b = 0) : rc_D w a' b' = rc_er 5 (rc_cs (a ^^^ a') (b ^^^ b')) := by
  have h1 := rc_er_0 5 _ h
  apply rc_er_ext
  intro j hj
  have h2 : w j ^^^ rc_cs a b j = 0 := h1 j hj
  rw [rc_x0] at h2
  show w j ^^^ rc_cs a' b' j = rc_cs (a ^^^ a') (b ^^^ b') j
  rw [h2, rc_cs_x j ha ha' hb hb']
theorem rc_min1 : ∀ a, a < 32 → rc_er 5 (rc_cs a 0) ≤ 2 → rc_er 5 (rc_cs a 0) = 0 := by decide +kernel
theorem rc_min2 : ∀ a, a < 32 → ∀ b, b < 32 → rc_er 5 (rc_cs a b) ≤ 1 → rc_er 5 (rc_cs a b) = 0 := by decide +kernel
/-! ===== counting, first of all ===== -/
def rc_ct (p : Nat → Bool) : Nat → Nat
  | 0 => 0
  | n + 1 => if p n = true then rc_ct p n + 1 else rc_ct p n
theorem rc_ct_le (p : Nat → Bool) : ∀ n, rc_ct p n ≤ n := by
  intro n
  induction n with
  | zero => exact Nat.le_refl 0
  | succ n ih =>
    unfold rc_ct
    split <;> omega
theorem rc_ct_ext (p q : Nat → Bool) : ∀ n, (∀ j, j < n → (p j = true ↔ q j = true)) → rc_ct p n = rc_ct q n := by
  intro n
  induction n with
  | zero => intro _; rfl
  | succ n ih =>
    intro h
    unfold rc_ct
    rw [ih (fun j hj => h j (by omega))]
    by_cases z : p n = true
    · rw [if_pos z, if_pos ((h n (by omega)).mp z)]
    · rw [if_neg z, if_neg (fun y => z ((h n (by omega)).mpr y))]
theorem rc_dich (D : Nat → Nat) (lim : Nat) : ∀ c, (∃ m, m < c ∧ D m ≤ lim ∧ ∀ m', m' < m → lim < D m') ∨ (∀ m, m < c → lim < D m) := by
  intro c
  induction c with
  | zero => exact Or.inr (fun m hm => absurd hm (Nat.not_lt_zero m))
  | succ c ih =>
    rcases ih with ⟨m, hm, h1, h2⟩ | h
    · exact Or.inl ⟨m, by omega, h1, h2⟩
    · by_cases z : D c ≤ lim
      · exact Or.inl ⟨c, by omega, z, h⟩
      · refine Or.inr (fun m hm => ?_)
        rcases Nat.lt_or_ge m c with y | y
        · exact h m y
        · have : m = c := by omega
          subst this
          omega
/-! ===== places where two words differ ===== -/
def rc_pl (w c : Nat → Nat) : Nat → Nat
  | 0 => 0
  | i + 1 => if w i = c i then rc_pl w c i else rc_pl w c i ||| 2 ^ i
theorem rc_pl_lt (w c : Nat → Nat) : ∀ i, i ≤ 5 → rc_pl w c i < 32 := by
  intro i
  induction i with
  | zero => intro _; exact (by decide : 0 < 32)
  | succ i ih =>
    intro hi
    unfold rc_pl
    split
    · exact ih (by omega)
    · exact Nat.or_lt_two_pow (n := 5) (ih (by omega)) (rc_p2 i (by omega))
theorem nx_or (a b : Nat) : nI a ||| nI b = nI (a ||| b) := by
  apply Int32.toBitVec_inj.1
  show BitVec.ofNat 32 a ||| BitVec.ofNat 32 b = BitVec.ofNat 32 (a ||| b)
  apply BitVec.eq_of_getLsbD_eq
  intro i hi
  simp [hi]
theorem rc_1sh : ∀ i, i < 32 → (1 : Int32) <<< (nI i &&& 31) = nI (2 ^ i) := by decide +kernel
def rc_sb (p S : Nat) : Prop := (nI p &&& (nI S ^^^ (-1))) = 0
/-- the number of messages -/
def rc_cn (K : Nat) : Nat := if K = 2 then 1024 else 32
