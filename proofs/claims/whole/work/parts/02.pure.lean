/-! ===== the field, the code and the rank: pure pictures over naturals ===== -/
def rc_t (s : Nat) : Nat := if 32 ≤ s * 2 then (s * 2) ^^^ 37 else s * 2
def rc_h (a b d s : Nat) : Nat := if b / 2 ^ d % 2 = 1 then rc_t s ^^^ a else rc_t s
/-- the first's product: digits r - 1 down to 0 still to come -/
def rc_pd (a b : Nat) : Nat → Nat → Nat
  | 0, s => s
  | r + 1, s => rc_pd a b r (rc_h a b r s)
def rc_pr (a b : Nat) : Nat := rc_pd a b 5 0
/-- the second's product: the wide sum, then its four reductions -/
def rc_u (a b i w : Nat) : Nat := if b / 2 ^ i % 2 = 1 then w ^^^ (a * 2 ^ i) else w
def rc_wi (a b : Nat) : Nat → Nat
  | 0 => 0
  | i + 1 => rc_u a b i (rc_wi a b i)
def rc_v (r w : Nat) : Nat := if w / 2 ^ (r + 5) % 2 = 1 then w ^^^ (37 * 2 ^ r) else w
def rc_qd : Nat → Nat → Nat
  | 0, w => w
  | r + 1, w => rc_qd r (rc_v r w)
theorem rc_x32 {a b : Nat} (ha : a < 32) (hb : b < 32) : a ^^^ b < 32 := Nat.xor_lt_two_pow (n := 5) ha hb
theorem rc_x512 {a b : Nat} (ha : a < 512) (hb : b < 512) : a ^^^ b < 512 := Nat.xor_lt_two_pow (n := 9) ha hb
theorem rc_t_lt : ∀ s, s < 32 → rc_t s < 32 := by decide +kernel
theorem rc_h_lt {a b d s : Nat} (ha : a < 32) (hs : s < 32) : rc_h a b d s < 32 := by
  unfold rc_h
  split
  · exact rc_x32 (rc_t_lt s hs) ha
  · exact rc_t_lt s hs
theorem rc_pd_lt {a : Nat} (b : Nat) (ha : a < 32) : ∀ r s, s < 32 → rc_pd a b r s < 32 := by
  intro r
  induction r with
  | zero => intro s hs; exact hs
  | succ r ih => intro s hs; exact ih _ (rc_h_lt ha hs)
theorem rc_pr_lt {a : Nat} (b : Nat) (ha : a < 32) : rc_pr a b < 32 := rc_pd_lt b ha 5 0 (by decide)
theorem rc_p2 : ∀ i, i < 5 → 2 ^ i < 32 := by decide
theorem rc_p16 : ∀ i, i < 5 → 2 ^ i ≤ 16 := by decide
theorem rc_u_lt {a b i w : Nat} (ha : a < 32) (hi : i < 5) (hw : w < 512) : rc_u a b i w < 512 := by
  unfold rc_u
  split
  · refine rc_x512 hw ?_
    have h1 : a * 2 ^ i ≤ a * 16 := Nat.mul_le_mul_left a (rc_p16 i hi)
    omega
  · exact hw
theorem rc_wi_lt {a : Nat} (b : Nat) (ha : a < 32) : ∀ i, i ≤ 5 → rc_wi a b i < 512 := by
  intro i
  induction i with
  | zero => intro _; exact (by decide : 0 < 512)
  | succ i ih => intro hi; exact rc_u_lt ha (by omega) (ih (by omega))
theorem rc_p8 : ∀ i, i < 4 → 37 * 2 ^ i < 512 := by decide
theorem rc_v_lt {r w : Nat} (hr : r < 4) (hw : w < 512) : rc_v r w < 512 := by
  unfold rc_v
  split
  · exact rc_x512 hw (rc_p8 r hr)
  · exact hw
theorem rc_qr : ∀ a, a < 32 → ∀ b, b < 32 → rc_qd 4 (rc_wi a b 5) = rc_pr a b := by decide +kernel
/-! ===== the code ===== -/
def rc_cs (m0 m1 i : Nat) : Nat := rc_pr m0 (2 ^ i) ^^^ rc_pr m1 (rc_pr (2 ^ i) (2 ^ i))
theorem rc_cs_lt {m0 m1 : Nat} (i : Nat) (h0 : m0 < 32) (h1 : m1 < 32) : rc_cs m0 m1 i < 32 := rc_x32 (rc_pr_lt _ h0) (rc_pr_lt _ h1)
theorem rc_xx (p q a b : Nat) : (p ^^^ q) ^^^ (a ^^^ b) = (p ^^^ a) ^^^ (q ^^^ b) := by
  apply Nat.eq_of_testBit_eq
  intro i
  simp only [Nat.testBit_xor]
  cases p.testBit i <;> cases q.testBit i <;> cases a.testBit i <;> cases b.testBit i <;> rfl
theorem rc_x0 {a b : Nat} : a ^^^ b = 0 ↔ a = b := by
  constructor
  · intro h
    apply Nat.eq_of_testBit_eq
    intro i
    have e : (a ^^^ b).testBit i = false := by rw [h]; exact Nat.zero_testBit i
    rw [Nat.testBit_xor] at e
    revert e
    cases a.testBit i <;> cases b.testBit i <;> decide
  · intro h
    rw [h, Nat.xor_self]
theorem rc_t_x : ∀ a, a < 32 → ∀ b, b < 32 → rc_t (a ^^^ b) = rc_t a ^^^ rc_t b := by decide +kernel
theorem rc_h_x {a a' b d s s' : Nat} (hs : s < 32) (hs' : s' < 32) : rc_h (a ^^^ a') b d (s ^^^ s') = rc_h a b d s ^^^ rc_h a' b d s' := by
  unfold rc_h
  rw [rc_t_x s hs s' hs']
  by_cases h : b / 2 ^ d % 2 = 1
  · rw [if_pos h, if_pos h, if_pos h, rc_xx]
  · rw [if_neg h, if_neg h, if_neg h]
theorem rc_pd_x {a a' : Nat} (b : Nat) (ha : a < 32) (ha' : a' < 32) : ∀ r s s', s < 32 → s' < 32 → rc_pd (a ^^^ a') b r (s ^^^ s') = rc_pd a b r s ^^^ rc_pd a' b r s' := by
  intro r
  induction r with
  | zero => intro s s' _ _; rfl
  | succ r ih =>
    intro s s' hs hs'
    show rc_pd (a ^^^ a') b r (rc_h (a ^^^ a') b r (s ^^^ s')) = rc_pd a b r (rc_h a b r s) ^^^ rc_pd a' b r (rc_h a' b r s')
    rw [rc_h_x hs hs']
    exact ih _ _ (rc_h_lt ha hs) (rc_h_lt ha' hs')
theorem rc_pr_x {a a' : Nat} (b : Nat) (ha : a < 32) (ha' : a' < 32) : rc_pr (a ^^^ a') b = rc_pr a b ^^^ rc_pr a' b := rc_pd_x b ha ha' 5 0 0 (by decide) (by decide)
theorem rc_cs_x {a a' b b' : Nat} (i : Nat) (ha : a < 32) (ha' : a' < 32) (hb : b < 32) (hb' : b' < 32) : rc_cs (a ^^^ a') (b ^^^ b') i = rc_cs a b i ^^^ rc_cs a' b' i := by
  unfold rc_cs
  rw [rc_pr_x _ ha ha', rc_pr_x _ hb hb', rc_xx]
/-! ===== the rank by elimination ===== -/
def rc_lo (v : Nat) : Nat := if v.testBit 0 then 0 else if v.testBit 1 then 1 else if v.testBit 2 then 2 else if v.testBit 3 then 3 else 4
def rc_cl (v x : Nat) : Nat := if x.testBit (rc_lo v) then x ^^^ v else x
def rc_er : Nat → (Nat → Nat) → Nat
  | 0, _ => 0
  | n + 1, f => if f 0 = 0 then rc_er n (fun j => f (j + 1)) else rc_er n (fun j => rc_cl (f 0) (f (j + 1))) + 1
theorem rc_cl_lt {v x : Nat} (hv : v < 32) (hx : x < 32) : rc_cl v x < 32 := by
  unfold rc_cl
  split
  · exact rc_x32 hx hv
  · exact hx
theorem rc_lo_t : ∀ v, v < 32 → v ≠ 0 → v.testBit (rc_lo v) = true := by decide +kernel
theorem rc_lo_i : ∀ v, v < 32 → v ≠ 0 → ∀ x, x < 32 → ((nI x &&& (nI v &&& (-nI v))) = 0 ↔ x.testBit (rc_lo v) = false) := by decide +kernel
theorem rc_er_ext : ∀ n (f g : Nat → Nat), (∀ j, j < n → f j = g j) → rc_er n f = rc_er n g := by
  intro n
  induction n with
  | zero => intro f g _; rfl
  | succ n ih =>
    intro f g h
    have e0 : f 0 = g 0 := h 0 (by omega)
    unfold rc_er
    rw [e0, ih (fun j => f (j + 1)) (fun j => g (j + 1)) (fun j hj => h (j + 1) (by omega)), ih (fun j => rc_cl (g 0) (f (j + 1))) (fun j => rc_cl (g 0) (g (j + 1))) (fun j hj => congrArg (rc_cl (g 0)) (h (j + 1) (by omega)))]
theorem rc_er_le : ∀ n (f : Nat → Nat), rc_er n f ≤ n := by
  intro n
  induction n with
  | zero => intro f; exact Nat.le_refl 0
  | succ n ih =>
    intro f
    unfold rc_er
    split
    · exact Nat.le_trans (ih _) (Nat.le_succ n)
    · exact Nat.succ_le_succ (ih _)
theorem rc_er_s0 {n : Nat} {f : Nat → Nat} (h : f 0 = 0) : rc_er (n + 1) f = rc_er n (fun j => f (j + 1)) := if_pos h
theorem rc_er_s1 {n : Nat} {f : Nat → Nat} (h : ¬ f 0 = 0) : rc_er (n + 1) f = rc_er n (fun j => rc_cl (f 0) (f (j + 1))) + 1 := if_neg h
theorem rc_er_0 : ∀ n (f : Nat → Nat), rc_er n f = 0 → ∀ j, j < n → f j = 0 := by
  intro n
  induction n with
  | zero => intro f _ j hj; omega
  | succ n ih =>
    intro f h j hj
    by_cases h0 : f 0 = 0
    · rw [rc_er_s0 h0] at h
      cases j with
      | zero => exact h0
      | succ j => exact ih _ h j (by omega)
    · rw [rc_er_s1 h0] at h
      omega
theorem rc_er_z : ∀ n (f : Nat → Nat), (∀ j, j < n → f j = 0) → rc_er n f = 0 := by
  intro n
  induction n with
  | zero => intro f _; rfl
  | succ n ih =>
    intro f h
    rw [rc_er_s0 (h 0 (by omega))]
    exact ih _ (fun j hj => h (j + 1) (by omega))
theorem rc_cl_x (v a b : Nat) : rc_cl v (a ^^^ b) = rc_cl v a ^^^ rc_cl v b := by
  unfold rc_cl
  rw [Nat.testBit_xor]
  generalize rc_lo v = p
  cases a.testBit p <;> cases b.testBit p <;> apply Nat.eq_of_testBit_eq <;> intro i <;> simp <;> cases a.testBit i <;> cases b.testBit i <;> cases v.testBit i <;> rfl
theorem rc_cl_0 {v x : Nat} (hv : v < 32) (h0 : v ≠ 0) : rc_cl v x = 0 ↔ x = 0 ∨ x = v := by
  unfold rc_cl
  by_cases h : x.testBit (rc_lo v) = true
  · rw [if_pos h, rc_x0]
    constructor
    · intro e; exact Or.inr e
    · intro e
      rcases e with e | e
      · subst e
        rw [Nat.zero_testBit] at h
        cases h
      · exact e
  · rw [if_neg h]
    constructor
    · intro e; exact Or.inl e
    · intro e
      rcases e with e | e
      · exact e
      · subst e
        exact absurd (rc_lo_t x hv h0) h
