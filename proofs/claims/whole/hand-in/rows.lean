section
/-! rows pasted from the rows to paste -/
theorem pk_us {f : Nat → Int32} {k : Nat} {x : Int32} : upd f k x k = x := if_pos rfl
theorem pk_un {f : Nat → Int32} {k j : Nat} {x : Int32} (h : j ≠ k) : upd f k x j = f j := if_neg h
theorem pk_sub {a b : Nat} (h : b ≤ a) : nI a - nI b = nI (a - b) := by
  obtain ⟨c, rfl⟩ : ∃ c, a = c + b := ⟨a - b, by omega⟩
  rw [← nI_add, Int32.add_sub_cancel, Nat.add_sub_cancel]
theorem pk_m1 (n : Nat) : nI (n + 1) + (-1) = nI n := by
  rw [← nI_1, Int32.add_assoc, show (1 : Int32) + (-1) = 0 from rfl, Int32.add_zero]
theorem pk_mul (a b : Nat) : nI a * nI b = nI (a * b) := (Int32.ofNat_mul a b).symm
theorem pk_div {a d : Nat} (ha : a < 2 ^ 31) (h0 : 0 < d) (hd : d < 2 ^ 31) : nI a / nI d = nI (a / d) := by
  apply Int32.toInt_inj.mp
  rw [lg_idiv_nonneg (by rw [nI_toInt ha]; omega) (by rw [nI_toInt hd]; omega), nI_toInt ha, nI_toInt hd, nI_toInt (Nat.lt_of_le_of_lt (Nat.div_le_self a d) ha)]
  first | rfl | exact (Int.natCast_ediv _ _).symm
theorem pk_rem {a d : Nat} (ha : a < 2 ^ 31) (h0 : 0 < d) (hd : d < 2 ^ 31) : nI a - nI a / nI d * nI d = nI (a % d) := by
  rw [pk_div ha h0 hd, pk_mul, pk_sub (Nat.div_mul_le_self a d)]
  exact congrArg nI (by have := Nat.div_add_mod' a d; omega)
theorem pk_ix (x : Int32) {n : Nat} (hn : n < 2 ^ 31) : x < 0 ∨ nI n ≤ x ∨ ∃ j : Nat, j < n ∧ x = nI j := by
  by_cases h : x < 0
  · exact Or.inl h
  · obtain ⟨j, hj, rfl⟩ := nI_of h
    by_cases h2 : j < n
    · exact Or.inr (Or.inr ⟨j, h2, rfl⟩)
    · exact Or.inr (Or.inl (nI_le (by omega) hj))
theorem pk_le {x y : Int32} {A B : Prop} (a b : Nat) (f : a ≤ b → A) (g : b < a → B) (hx : x = nI a := by rfl) (hy : y = nI b := by rfl) (ha : a < 2 ^ 31 := by omega) (hb : b < 2 ^ 31 := by omega) : (x ≤ y → A) ∧ (¬ x ≤ y → B) := by
  subst hx hy
  rw [nI_leI ha hb]
  exact ⟨f, fun z => g (by omega)⟩
theorem pk_lt {x y : Int32} {A B : Prop} (a b : Nat) (f : a < b → A) (g : b ≤ a → B) (hx : x = nI a := by rfl) (hy : y = nI b := by rfl) (ha : a < 2 ^ 31 := by omega) (hb : b < 2 ^ 31 := by omega) : (x < y → A) ∧ (¬ x < y → B) := by
  subst hx hy
  rw [nI_ltI ha hb]
  exact ⟨f, fun z => g (by omega)⟩
theorem pk_eq {x y : Int32} {A B : Prop} (a b : Nat) (f : a = b → A) (g : a ≠ b → B) (hx : x = nI a := by rfl) (hy : y = nI b := by rfl) (ha : a < 2 ^ 31 := by omega) (hb : b < 2 ^ 31 := by omega) : (x = y → A) ∧ (¬ x = y → B) := by
  subst hx hy
  rw [nI_eq ha hb]
  exact ⟨f, g⟩
theorem pk_in {x : Int32} (n N : Nat) (h : n < N) (hx : x = nI n := by rfl) (hN : N < 2 ^ 31 := by omega) : vp_in x N := by
  subst hx
  exact vp_in_nI h hN
theorem pk_cl {x : Int32} (n : Nat) (hx : x = nI n := by rfl) (h : n < 2 ^ 31 := by omega) : x.toNatClampNeg = n := by
  subst hx
  exact nI_clamp h
theorem pk_tn {n : Nat} (h : n < 2 ^ 32) : (nI n).toBitVec.toNat = n := Nat.mod_eq_of_lt h
theorem pk_and (x : Int32) {m : Int32} (k : Nat) (hm : m.toBitVec.toNat = 2 ^ k - 1) : x &&& m = nI (x.toBitVec.toNat % 2 ^ k) := by
  apply Int32.toBitVec_inj.mp
  apply BitVec.eq_of_toNat_eq
  rw [Int32.toBitVec_and, BitVec.toNat_and, hm, Nat.and_two_pow_sub_one_eq_mod]
  show _ = (BitVec.ofNat 32 _).toNat
  rw [BitVec.toNat_ofNat]
  exact (Nat.mod_eq_of_lt (Nat.lt_of_le_of_lt (Nat.mod_le _ _) x.toBitVec.isLt)).symm
theorem pk_andN {n : Nat} (h : n < 2 ^ 32) {m : Int32} (k : Nat) (hm : m.toBitVec.toNat = 2 ^ k - 1) : nI n &&& m = nI (n % 2 ^ k) := by
  rw [pk_and _ k hm, pk_tn h]
theorem pk_shl (a s : Int32) (k : Nat) (hs : (s.toBitVec.smod 32).toNat = k) : (a <<< s).toBitVec.toNat = a.toBitVec.toNat * 2 ^ k % 2 ^ 32 := by
  show (a.toBitVec <<< (s.toBitVec.smod 32).toNat).toNat = _
  rw [hs, BitVec.toNat_shiftLeft, Nat.shiftLeft_eq]
theorem pk_shlN {n : Nat} (s : Int32) (k : Nat) (hs : (s.toBitVec.smod 32).toNat = k) (h : n * 2 ^ k < 2 ^ 32) : nI n <<< s = nI (n * 2 ^ k) := by
  apply Int32.toBitVec_inj.mp
  apply BitVec.eq_of_toNat_eq
  have hn : n < 2 ^ 32 := Nat.lt_of_le_of_lt (Nat.le_mul_of_pos_right n (Nat.two_pow_pos k)) h
  rw [pk_shl _ _ k hs, pk_tn hn, pk_tn h, Nat.mod_eq_of_lt h]
theorem pk_shr (a s : Int32) (k : Nat) (hs : (s.toBitVec.smod 32).toNat = k) : (a >>> s).toInt = a.toInt >>> k := by
  show (a.toBitVec.sshiftRight (s.toBitVec.smod 32).toNat).toInt = _
  rw [hs, BitVec.toInt_sshiftRight]
  rfl
theorem pk_shrN {n : Nat} (h : n < 2 ^ 31) (s : Int32) (k : Nat) (hs : (s.toBitVec.smod 32).toNat = k) : nI n >>> s = nI (n / 2 ^ k) := by
  apply Int32.toInt_inj.mp
  have h2 : n / 2 ^ k ≤ n := Nat.div_le_self _ _
  rw [pk_shr _ _ k hs, nI_toInt h, nI_toInt (by omega), Int.shiftRight_eq_div_pow]
  rfl
theorem pk_loop {σ : Type} (W : Nat → Nat → σ → Prop) (I : Nat → σ → Prop) (e i0 : Nat) (s : σ) (hi : i0 ≤ e) (h0 : I i0 s) (hx : ∀ n s, I e s → W (n + 1) e s)
    (hs : ∀ n i s, i < e → I i s → (∀ s', I (i + 1) s' → W n (i + 1) s') → W (n + 1) i s) : ∃ n, W n i0 s :=
  ⟨e + 1, loop_i W I e hx hs (e + 1) i0 s hi (by omega) h0⟩
theorem pk_loopD {σ : Type} (W : Nat → Nat → σ → Prop) (I : Nat → σ → Prop) (hx : ∀ n s, I 0 s → W (n + 1) 0 s)
    (hs : ∀ n i s, I (i + 1) s → (∀ s', I i s' → W n i s') → W (n + 1) (i + 1) s) : ∀ (e : Nat) (s : σ), I e s → W (e + 1) e s := by
  intro e
  induction e with
  | zero => exact fun s h => hx 0 s h
  | succ e ih => exact fun s h => hs (e + 1) e s h (fun s' h' => ih s' h')
theorem ek_if {c d A B : Prop} (e : c ↔ d) (f : d → A) (g : ¬ d → B) : (c → A) ∧ (¬ c → B) :=
  ⟨fun z => f (e.mp z), fun z => g (fun y => z (e.mpr y))⟩
theorem ek_v {α : Sort _} {P : α → Prop} {a b : α} (e : a = b) (h : P b) : P a := e ▸ h
theorem sb_shr0 (x : Int32) : x >>> ((0 : Int32) &&& 31) = x := by
  rw [show ((0 : Int32) &&& 31) = 0 by decide]
  simp
theorem sb_shl0 (x : Int32) : x <<< ((0 : Int32) &&& 31) = x := by
  rw [show ((0 : Int32) &&& 31) = 0 by decide]
  simp
def bt (x : Int32) (i : Nat) : Bool := x.toBitVec.getLsbD i
theorem b_ext {x y : Int32} (h : ∀ i, i < 32 → bt x i = bt y i) : x = y := Int32.toBitVec_inj.mp (BitVec.eq_of_getLsbD_eq (fun i hi => h i hi))
theorem b_or (x y : Int32) (i : Nat) : bt (x ||| y) i = (bt x i || bt y i) := by unfold bt; rw [Int32.toBitVec_or, BitVec.getLsbD_or]
theorem b_and (x y : Int32) (i : Nat) : bt (x &&& y) i = (bt x i && bt y i) := by unfold bt; rw [Int32.toBitVec_and, BitVec.getLsbD_and]
theorem b_xor (x y : Int32) (i : Nat) : bt (x ^^^ y) i = (bt x i ^^ bt y i) := by unfold bt; rw [Int32.toBitVec_xor, BitVec.getLsbD_xor]
theorem b_big {x : Int32} {i : Nat} (h : 32 ≤ i) : bt x i = false := BitVec.getLsbD_of_ge _ _ h
theorem b_m1 : ∀ i, i < 32 → bt (-1) i = true := by decide +kernel
theorem b_0 (i : Nat) : bt 0 i = false := BitVec.getLsbD_zero
theorem s_l : ∀ n, n < 32 → ((nI n &&& 31).toBitVec.smod 32).toNat = n := by decide +kernel
theorem s_u : ∀ n, n < 32 → (((nI n).toUInt32 &&& Int32.toUInt32 31).toBitVec % 32).toNat = n := by decide +kernel
theorem b_shl (n : Nat) (hn : n < 32) (x : Int32) {i : Nat} (hi : i < 32) : bt (x <<< (nI n &&& 31)) i = (decide (n ≤ i) && bt x (i - n)) := by
  unfold bt
  rw [Int32.toBitVec_shiftLeft]
  show (x.toBitVec <<< ((nI n &&& 31).toBitVec.smod 32).toNat).getLsbD i = _
  rw [s_l n hn, BitVec.getLsbD_shiftLeft]
  rcases Nat.lt_or_ge i n with h | h
  · simp [h, Nat.not_le.mpr h]
  · simp [hi, h, Nat.not_lt.mpr h]
theorem b_ushr (n : Nat) (hn : n < 32) (x : Int32) (i : Nat) : bt ((x.toUInt32 >>> ((nI n).toUInt32 &&& Int32.toUInt32 31)).toInt32) i = bt x (n + i) := by
  show (x.toUInt32 >>> ((nI n).toUInt32 &&& Int32.toUInt32 31)).toBitVec.getLsbD i = x.toUInt32.toBitVec.getLsbD (n + i)
  rw [UInt32.toBitVec_shiftRight]
  show (x.toUInt32.toBitVec >>> (((nI n).toUInt32 &&& Int32.toUInt32 31).toBitVec % 32).toNat).getLsbD i = _
  rw [s_u n hn, BitVec.getLsbD_ushiftRight]
theorem b_sshr (n : Nat) (hn : n < 32) (x : Int32) {i : Nat} (hi : i < 32) : bt (x >>> (nI n &&& 31)) i = if n + i < 32 then bt x (n + i) else bt x 31 := by
  unfold bt
  rw [Int32.toBitVec_shiftRight]
  show (x.toBitVec.sshiftRight ((nI n &&& 31).toBitVec.smod 32).toNat).getLsbD i = _
  rw [s_l n hn, BitVec.getLsbD_sshiftRight, BitVec.msb_eq_getLsbD_last]
  simp [hi]
theorem nx_and (a b : Nat) : nI a &&& nI b = nI (a &&& b) := by
  apply Int32.toBitVec_inj.1
  show BitVec.ofNat 32 a &&& BitVec.ofNat 32 b = BitVec.ofNat 32 (a &&& b)
  apply BitVec.eq_of_getLsbD_eq
  intro i hi
  simp [hi]
theorem nx_xor (a b : Nat) : nI a ^^^ nI b = nI (a ^^^ b) := by
  apply Int32.toBitVec_inj.1
  show BitVec.ofNat 32 a ^^^ BitVec.ofNat 32 b = BitVec.ofNat 32 (a ^^^ b)
  apply BitVec.eq_of_getLsbD_eq
  intro i hi
  simp [hi]
end
section
/-! ===== the field, the code and the rank: pure pictures over naturals ===== -/
def rc_t (s : Nat) : Nat := if 32 ≤ s * 2 then (s * 2) ^^^ 37 else s * 2
def rc_h (a b d s : Nat) : Nat := if b / 2 ^ d % 2 = 1 then rc_t s ^^^ a else rc_t s
/-- the first's product: digits r - 1 down to 0 still to come -/
def rc_pd (a b : Nat) : Nat → Nat → Nat
  | 0, s => s
  | r + 1, s => rc_pd a b r (rc_h a b r s)
def rc_pr (a b : Nat) : Nat := rc_pd a b 5 0
/-- the second's product: the wide sum, then its four reductions -/
def rc_u (a b i w : Nat) : Nat := if b / 2 ^ i % 2 = 1 then w ^^^ (a * 2 ^ i) else w
def rc_wi (a b : Nat) : Nat → Nat
  | 0 => 0
  | i + 1 => rc_u a b i (rc_wi a b i)
def rc_v (r w : Nat) : Nat := if w / 2 ^ (r + 5) % 2 = 1 then w ^^^ (37 * 2 ^ r) else w
def rc_qd : Nat → Nat → Nat
  | 0, w => w
  | r + 1, w => rc_qd r (rc_v r w)
theorem rc_x32 {a b : Nat} (ha : a < 32) (hb : b < 32) : a ^^^ b < 32 := Nat.xor_lt_two_pow (n := 5) ha hb
theorem rc_x512 {a b : Nat} (ha : a < 512) (hb : b < 512) : a ^^^ b < 512 := Nat.xor_lt_two_pow (n := 9) ha hb
theorem rc_t_lt : ∀ s, s < 32 → rc_t s < 32 := by decide +kernel
theorem rc_h_lt {a b d s : Nat} (ha : a < 32) (hs : s < 32) : rc_h a b d s < 32 := by
  unfold rc_h
  split
  · exact rc_x32 (rc_t_lt s hs) ha
  · exact rc_t_lt s hs
theorem rc_pd_lt {a : Nat} (b : Nat) (ha : a < 32) : ∀ r s, s < 32 → rc_pd a b r s < 32 := by
  intro r
  induction r with
  | zero => intro s hs; exact hs
  | succ r ih => intro s hs; exact ih _ (rc_h_lt ha hs)
theorem rc_pr_lt {a : Nat} (b : Nat) (ha : a < 32) : rc_pr a b < 32 := rc_pd_lt b ha 5 0 (by decide)
theorem rc_p2 : ∀ i, i < 5 → 2 ^ i < 32 := by decide
theorem rc_p16 : ∀ i, i < 5 → 2 ^ i ≤ 16 := by decide
theorem rc_u_lt {a b i w : Nat} (ha : a < 32) (hi : i < 5) (hw : w < 512) : rc_u a b i w < 512 := by
  unfold rc_u
  split
  · refine rc_x512 hw ?_
    have h1 : a * 2 ^ i ≤ a * 16 := Nat.mul_le_mul_left a (rc_p16 i hi)
    omega
  · exact hw
theorem rc_wi_lt {a : Nat} (b : Nat) (ha : a < 32) : ∀ i, i ≤ 5 → rc_wi a b i < 512 := by
  intro i
  induction i with
  | zero => intro _; exact (by decide : 0 < 512)
  | succ i ih => intro hi; exact rc_u_lt ha (by omega) (ih (by omega))
theorem rc_p8 : ∀ i, i < 4 → 37 * 2 ^ i < 512 := by decide
theorem rc_v_lt {r w : Nat} (hr : r < 4) (hw : w < 512) : rc_v r w < 512 := by
  unfold rc_v
  split
  · exact rc_x512 hw (rc_p8 r hr)
  · exact hw
theorem rc_qr : ∀ a, a < 32 → ∀ b, b < 32 → rc_qd 4 (rc_wi a b 5) = rc_pr a b := by decide +kernel
/-! ===== the code ===== -/
def rc_cs (m0 m1 i : Nat) : Nat := rc_pr m0 (2 ^ i) ^^^ rc_pr m1 (rc_pr (2 ^ i) (2 ^ i))
theorem rc_cs_lt {m0 m1 : Nat} (i : Nat) (h0 : m0 < 32) (h1 : m1 < 32) : rc_cs m0 m1 i < 32 := rc_x32 (rc_pr_lt _ h0) (rc_pr_lt _ h1)
theorem rc_xx (p q a b : Nat) : (p ^^^ q) ^^^ (a ^^^ b) = (p ^^^ a) ^^^ (q ^^^ b) := by
  apply Nat.eq_of_testBit_eq
  intro i
  simp only [Nat.testBit_xor]
  cases p.testBit i <;> cases q.testBit i <;> cases a.testBit i <;> cases b.testBit i <;> rfl
theorem rc_x0 {a b : Nat} : a ^^^ b = 0 ↔ a = b := by
  constructor
  · intro h
    apply Nat.eq_of_testBit_eq
    intro i
    have e : (a ^^^ b).testBit i = false := by rw [h]; exact Nat.zero_testBit i
    rw [Nat.testBit_xor] at e
    revert e
    cases a.testBit i <;> cases b.testBit i <;> decide
  · intro h
    rw [h, Nat.xor_self]
theorem rc_t_x : ∀ a, a < 32 → ∀ b, b < 32 → rc_t (a ^^^ b) = rc_t a ^^^ rc_t b := by decide +kernel
theorem rc_h_x {a a' b d s s' : Nat} (hs : s < 32) (hs' : s' < 32) : rc_h (a ^^^ a') b d (s ^^^ s') = rc_h a b d s ^^^ rc_h a' b d s' := by
  unfold rc_h
  rw [rc_t_x s hs s' hs']
  by_cases h : b / 2 ^ d % 2 = 1
  · rw [if_pos h, if_pos h, if_pos h, rc_xx]
  · rw [if_neg h, if_neg h, if_neg h]
theorem rc_pd_x {a a' : Nat} (b : Nat) (ha : a < 32) (ha' : a' < 32) : ∀ r s s', s < 32 → s' < 32 → rc_pd (a ^^^ a') b r (s ^^^ s') = rc_pd a b r s ^^^ rc_pd a' b r s' := by
  intro r
  induction r with
  | zero => intro s s' _ _; rfl
  | succ r ih =>
    intro s s' hs hs'
    show rc_pd (a ^^^ a') b r (rc_h (a ^^^ a') b r (s ^^^ s')) = rc_pd a b r (rc_h a b r s) ^^^ rc_pd a' b r (rc_h a' b r s')
    rw [rc_h_x hs hs']
    exact ih _ _ (rc_h_lt ha hs) (rc_h_lt ha' hs')
theorem rc_pr_x {a a' : Nat} (b : Nat) (ha : a < 32) (ha' : a' < 32) : rc_pr (a ^^^ a') b = rc_pr a b ^^^ rc_pr a' b := rc_pd_x b ha ha' 5 0 0 (by decide) (by decide)
theorem rc_cs_x {a a' b b' : Nat} (i : Nat) (ha : a < 32) (ha' : a' < 32) (hb : b < 32) (hb' : b' < 32) : rc_cs (a ^^^ a') (b ^^^ b') i = rc_cs a b i ^^^ rc_cs a' b' i := by
  unfold rc_cs
  rw [rc_pr_x _ ha ha', rc_pr_x _ hb hb', rc_xx]
/-! ===== the rank by elimination ===== -/
def rc_lo (v : Nat) : Nat := if v.testBit 0 then 0 else if v.testBit 1 then 1 else if v.testBit 2 then 2 else if v.testBit 3 then 3 else 4
def rc_cl (v x : Nat) : Nat := if x.testBit (rc_lo v) then x ^^^ v else x
def rc_er : Nat → (Nat → Nat) → Nat
  | 0, _ => 0
  | n + 1, f => if f 0 = 0 then rc_er n (fun j => f (j + 1)) else rc_er n (fun j => rc_cl (f 0) (f (j + 1))) + 1
theorem rc_cl_lt {v x : Nat} (hv : v < 32) (hx : x < 32) : rc_cl v x < 32 := by
  unfold rc_cl
  split
  · exact rc_x32 hx hv
  · exact hx
theorem rc_lo_t : ∀ v, v < 32 → v ≠ 0 → v.testBit (rc_lo v) = true := by decide +kernel
theorem rc_lo_i : ∀ v, v < 32 → v ≠ 0 → ∀ x, x < 32 → ((nI x &&& (nI v &&& (-nI v))) = 0 ↔ x.testBit (rc_lo v) = false) := by decide +kernel
theorem rc_er_ext : ∀ n (f g : Nat → Nat), (∀ j, j < n → f j = g j) → rc_er n f = rc_er n g := by
  intro n
  induction n with
  | zero => intro f g _; rfl
  | succ n ih =>
    intro f g h
    have e0 : f 0 = g 0 := h 0 (by omega)
    unfold rc_er
    rw [e0, ih (fun j => f (j + 1)) (fun j => g (j + 1)) (fun j hj => h (j + 1) (by omega)), ih (fun j => rc_cl (g 0) (f (j + 1))) (fun j => rc_cl (g 0) (g (j + 1))) (fun j hj => congrArg (rc_cl (g 0)) (h (j + 1) (by omega)))]
theorem rc_er_le : ∀ n (f : Nat → Nat), rc_er n f ≤ n := by
  intro n
  induction n with
  | zero => intro f; exact Nat.le_refl 0
  | succ n ih =>
    intro f
    unfold rc_er
    split
    · exact Nat.le_trans (ih _) (Nat.le_succ n)
    · exact Nat.succ_le_succ (ih _)
theorem rc_er_s0 {n : Nat} {f : Nat → Nat} (h : f 0 = 0) : rc_er (n + 1) f = rc_er n (fun j => f (j + 1)) := if_pos h
theorem rc_er_s1 {n : Nat} {f : Nat → Nat} (h : ¬ f 0 = 0) : rc_er (n + 1) f = rc_er n (fun j => rc_cl (f 0) (f (j + 1))) + 1 := if_neg h
theorem rc_er_0 : ∀ n (f : Nat → Nat), rc_er n f = 0 → ∀ j, j < n → f j = 0 := by
  intro n
  induction n with
  | zero => intro f _ j hj; omega
  | succ n ih =>
    intro f h j hj
    by_cases h0 : f 0 = 0
    · rw [rc_er_s0 h0] at h
      cases j with
      | zero => exact h0
      | succ j => exact ih _ h j (by omega)
    · rw [rc_er_s1 h0] at h
      omega
theorem rc_er_z : ∀ n (f : Nat → Nat), (∀ j, j < n → f j = 0) → rc_er n f = 0 := by
  intro n
  induction n with
  | zero => intro f _; rfl
  | succ n ih =>
    intro f h
    rw [rc_er_s0 (h 0 (by omega))]
    exact ih _ (fun j hj => h (j + 1) (by omega))
theorem rc_cl_x (v a b : Nat) : rc_cl v (a ^^^ b) = rc_cl v a ^^^ rc_cl v b := by
  unfold rc_cl
  rw [Nat.testBit_xor]
  generalize rc_lo v = p
  cases a.testBit p <;> cases b.testBit p <;> apply Nat.eq_of_testBit_eq <;> intro i <;> simp <;> cases a.testBit i <;> cases b.testBit i <;> cases v.testBit i <;> rfl
theorem rc_cl_0 {v x : Nat} (hv : v < 32) (h0 : v ≠ 0) : rc_cl v x = 0 ↔ x = 0 ∨ x = v := by
  unfold rc_cl
  by_cases h : x.testBit (rc_lo v) = true
  · rw [if_pos h, rc_x0]
    constructor
    · intro e; exact Or.inr e
    · intro e
      rcases e with e | e
      · subst e
        rw [Nat.zero_testBit] at h
        cases h
      · exact e
  · rw [if_neg h]
    constructor
    · intro e; exact Or.inl e
    · intro e
      rcases e with e | e
      · exact e
      · subst e
        exact absurd (rc_lo_t x hv h0) h
end
section
/-! ===== an Int32 as a set of elements ===== -/
theorem rc_b1 : ∀ i, i < 32 → bt 1 i = decide (i = 0) := by decide +kernel
theorem rc_bt1 (T : Int32) (c : Bool) (h0 : bt T 0 = c) : T &&& 1 = if c = true then 1 else 0 := by
  apply b_ext
  intro i hi
  rw [b_and, rc_b1 i hi]
  by_cases h : i = 0
  · subst h
    rw [h0]
    cases c <;> decide +kernel
  · rw [decide_eq_false h, Bool.and_false]
    cases c
    · exact (b_0 i).symm
    · show false = bt 1 i
      rw [rc_b1 i hi, decide_eq_false h]
theorem rc_bv (S : Int32) {x : Nat} (hx : x < 32) : (S >>> (nI x &&& 31)) &&& 1 = if bt S x = true then 1 else 0 := by
  apply rc_bt1
  rw [b_sshr x hx S (by decide), Nat.add_zero, if_pos hx]
theorem rc_bu (S : Int32) {x : Nat} (hx : x < 32) : ((S.toUInt32 >>> ((nI x).toUInt32 &&& Int32.toUInt32 31)).toInt32) &&& 1 = if bt S x = true then 1 else 0 := by
  apply rc_bt1
  rw [b_ushr x hx S 0, Nat.add_zero]
theorem rc_bv1 (S : Int32) {x : Nat} (hx : x < 32) : (S >>> (nI x &&& 31)) &&& 1 = 1 ↔ bt S x = true := by
  rw [rc_bv S hx]
  cases bt S x <;> decide
theorem rc_bv0 (S : Int32) {x : Nat} (hx : x < 32) : (S >>> (nI x &&& 31)) &&& 1 = 0 ↔ bt S x = false := by
  rw [rc_bv S hx]
  cases bt S x <;> decide
theorem rc_1s : ∀ y, y < 32 → ∀ i, i < 32 → bt ((1 : Int32) <<< (nI y &&& 31)) i = decide (i = y) := by decide +kernel
theorem rc_or (S : Int32) {x y : Nat} (hy : y < 32) (hx : x < 32) : bt (S ||| ((1 : Int32) <<< (nI y &&& 31))) x = true ↔ bt S x = true ∨ x = y := by
  rw [b_or, rc_1s y hy x hx, Bool.or_eq_true, decide_eq_true_eq]
/-! ===== the sums of symbols, as the second keeps them, against the elimination ===== -/
def rc_Sp (S : Int32) (red : Nat → Nat) : Prop := (∀ x, x < 32 → (bt S x = true ↔ red x = 0)) ∧ (∀ x, x < 32 → red x < 32) ∧ (∀ x, x < 32 → ∀ y, y < 32 → red (x ^^^ y) = red x ^^^ red y)
theorem rc_Sp0 : rc_Sp 1 (fun x => x) := ⟨fun x hx => by rw [rc_b1 x hx, decide_eq_true_eq], fun _ h => h, fun _ _ _ _ => rfl⟩
theorem rc_Sp1 {S S' : Int32} {red : Nat → Nat} {s : Nat} (h : rc_Sp S red) (hs : s < 32) (h0 : red s ≠ 0) (h' : ∀ y, y < 32 → (bt S' y = true ↔ bt S y = true ∨ bt S (y ^^^ s) = true)) : rc_Sp S' (fun x => rc_cl (red s) (red x)) := by
  obtain ⟨h1, h2, h3⟩ := h
  refine ⟨fun x hx => ?_, fun x hx => rc_cl_lt (h2 s hs) (h2 x hx), fun x hx y hy => ?_⟩
  · show bt S' x = true ↔ rc_cl (red s) (red x) = 0
    rw [h' x hx, h1 x hx, h1 (x ^^^ s) (rc_x32 hx hs), h3 x hx s hs, rc_x0, rc_cl_0 (h2 s hs) h0]
  · show rc_cl (red s) (red (x ^^^ y)) = rc_cl (red s) (red x) ^^^ rc_cl (red s) (red y)
    rw [h3 x hx y hy, rc_cl_x]
theorem rc_xs (y s : Nat) : (y ^^^ s) ^^^ s = y := by rw [Nat.xor_assoc, Nat.xor_self, Nat.xor_zero]
def rc_Mo (S M : Int32) (s i : Nat) : Prop := ∀ y, y < 32 → (bt M y = true ↔ bt S y = true ∨ ∃ x, x < i ∧ bt S x = true ∧ y = x ^^^ s)
theorem rc_Mo0 (S : Int32) (s : Nat) : rc_Mo S S s 0 := fun y _ => ⟨fun h => Or.inl h, fun h => h.elim (fun a => a) (fun ⟨x, hx, _⟩ => absurd hx (Nat.not_lt_zero x))⟩
theorem rc_MoS {S M : Int32} {s i : Nat} (h : rc_Mo S M s i) (hb : bt S i = false) : rc_Mo S M s (i + 1) := by
  intro y hy
  rw [h y hy]
  constructor
  · rintro (a | ⟨x, hx, hs, e⟩)
    · exact Or.inl a
    · exact Or.inr ⟨x, by omega, hs, e⟩
  · rintro (a | ⟨x, hx, hs, e⟩)
    · exact Or.inl a
    · rcases Nat.lt_or_ge x i with z | z
      · exact Or.inr ⟨x, z, hs, e⟩
      · have : x = i := by omega
        subst this
        rw [hb] at hs
        cases hs
theorem rc_MoA {S M : Int32} {s i : Nat} (h : rc_Mo S M s i) (hi : i < 32) (hs : s < 32) (hb : bt S i = true) : rc_Mo S (M ||| ((1 : Int32) <<< (nI (i ^^^ s) &&& 31))) s (i + 1) := by
  intro y hy
  rw [rc_or M (rc_x32 hi hs) hy, h y hy]
  constructor
  · rintro ((a | ⟨x, hx, hs, e⟩) | a)
    · exact Or.inl a
    · exact Or.inr ⟨x, by omega, hs, e⟩
    · exact Or.inr ⟨i, by omega, hb, a⟩
  · rintro (a | ⟨x, hx, hs, e⟩)
    · exact Or.inl (Or.inl a)
    · rcases Nat.lt_or_ge x i with z | z
      · exact Or.inl (Or.inr ⟨x, z, hs, e⟩)
      · have : x = i := by omega
        subst this
        exact Or.inr e
theorem rc_MoE {S M : Int32} {s : Nat} (h : rc_Mo S M s 32) (hs : s < 32) : ∀ y, y < 32 → (bt M y = true ↔ bt S y = true ∨ bt S (y ^^^ s) = true) := by
  intro y hy
  rw [h y hy]
  constructor
  · rintro (a | ⟨x, hx, hb, e⟩)
    · exact Or.inl a
    · subst e
      rw [rc_xs]
      exact Or.inr hb
  · rintro (a | a)
    · exact Or.inl a
    · exact Or.inr ⟨y ^^^ s, rc_x32 hy hs, a, (rc_xs y s).symm⟩
/-! ===== distances ===== -/
def rc_D (w : Nat → Nat) (m0 m1 : Nat) : Nat := rc_er 5 (fun i => w i ^^^ rc_cs m0 m1 i)
theorem rc_D_le (w : Nat → Nat) (m0 m1 : Nat) : rc_D w m0 m1 ≤ 5 := rc_er_le 5 _
theorem rc_D_uni {w : Nat → Nat} {a b a' b' : Nat} (ha : a < 32) (hb : b < 32) (ha' : a' < 32) (hb' : b' < 32) (h : rc_D w a b = 0) : rc_D w a' b' = rc_er 5 (rc_cs (a ^^^ a') (b ^^^ b')) := by
  have h1 := rc_er_0 5 _ h
  apply rc_er_ext
  intro j hj
  have h2 : w j ^^^ rc_cs a b j = 0 := h1 j hj
  rw [rc_x0] at h2
  show w j ^^^ rc_cs a' b' j = rc_cs (a ^^^ a') (b ^^^ b') j
  rw [h2, rc_cs_x j ha ha' hb hb']
theorem rc_min1 : ∀ a, a < 32 → rc_er 5 (rc_cs a 0) ≤ 2 → rc_er 5 (rc_cs a 0) = 0 := by decide +kernel
theorem rc_min2 : ∀ a, a < 32 → ∀ b, b < 32 → rc_er 5 (rc_cs a b) ≤ 1 → rc_er 5 (rc_cs a b) = 0 := by decide +kernel
/-! ===== counting, first of all ===== -/
def rc_ct (p : Nat → Bool) : Nat → Nat
  | 0 => 0
  | n + 1 => if p n = true then rc_ct p n + 1 else rc_ct p n
theorem rc_ct_le (p : Nat → Bool) : ∀ n, rc_ct p n ≤ n := by
  intro n
  induction n with
  | zero => exact Nat.le_refl 0
  | succ n ih =>
    unfold rc_ct
    split <;> omega
theorem rc_ct_ext (p q : Nat → Bool) : ∀ n, (∀ j, j < n → (p j = true ↔ q j = true)) → rc_ct p n = rc_ct q n := by
  intro n
  induction n with
  | zero => intro _; rfl
  | succ n ih =>
    intro h
    unfold rc_ct
    rw [ih (fun j hj => h j (by omega))]
    by_cases z : p n = true
    · rw [if_pos z, if_pos ((h n (by omega)).mp z)]
    · rw [if_neg z, if_neg (fun y => z ((h n (by omega)).mpr y))]
theorem rc_dich (D : Nat → Nat) (lim : Nat) : ∀ c, (∃ m, m < c ∧ D m ≤ lim ∧ ∀ m', m' < m → lim < D m') ∨ (∀ m, m < c → lim < D m) := by
  intro c
  induction c with
  | zero => exact Or.inr (fun m hm => absurd hm (Nat.not_lt_zero m))
  | succ c ih =>
    rcases ih with ⟨m, hm, h1, h2⟩ | h
    · exact Or.inl ⟨m, by omega, h1, h2⟩
    · by_cases z : D c ≤ lim
      · exact Or.inl ⟨c, by omega, z, h⟩
      · refine Or.inr (fun m hm => ?_)
        rcases Nat.lt_or_ge m c with y | y
        · exact h m y
        · have : m = c := by omega
          subst this
          omega
/-! ===== places where two words differ ===== -/
def rc_pl (w c : Nat → Nat) : Nat → Nat
  | 0 => 0
  | i + 1 => if w i = c i then rc_pl w c i else rc_pl w c i ||| 2 ^ i
theorem rc_pl_lt (w c : Nat → Nat) : ∀ i, i ≤ 5 → rc_pl w c i < 32 := by
  intro i
  induction i with
  | zero => intro _; exact (by decide : 0 < 32)
  | succ i ih =>
    intro hi
    unfold rc_pl
    split
    · exact ih (by omega)
    · exact Nat.or_lt_two_pow (n := 5) (ih (by omega)) (rc_p2 i (by omega))
theorem nx_or (a b : Nat) : nI a ||| nI b = nI (a ||| b) := by
  apply Int32.toBitVec_inj.1
  show BitVec.ofNat 32 a ||| BitVec.ofNat 32 b = BitVec.ofNat 32 (a ||| b)
  apply BitVec.eq_of_getLsbD_eq
  intro i hi
  simp [hi]
theorem rc_1sh : ∀ i, i < 32 → (1 : Int32) <<< (nI i &&& 31) = nI (2 ^ i) := by decide +kernel
def rc_sb (p S : Nat) : Prop := (nI p &&& (nI S ^^^ (-1))) = 0
/-- the number of messages -/
def rc_cn (K : Nat) : Nat := if K = 2 then 1024 else 32
end
section
/-! ===== helpers between Int32 and naturals ===== -/
theorem rc_bitI {b d : Nat} (hb : b < 2 ^ 31) (hd : d < 32) : ((nI b >>> (nI d &&& 31)) &&& 1) = 1 ↔ b / 2 ^ d % 2 = 1 := by
  have h2 : b / 2 ^ d ≤ b := Nat.div_le_self _ _
  rw [pk_shrN hb (nI d &&& 31) d (s_l d hd)]
  generalize b / 2 ^ d = z at h2 ⊢
  rw [pk_andN (show z < 2 ^ 32 by omega) 1 (by decide)]
  show nI (z % 2) = nI 1 ↔ _
  exact nI_eq (by omega) (by decide)
theorem rc_sh1 {s : Nat} (hs : s < 512) : nI s <<< ((1 : Int32) &&& 31) = nI (s * 2) := pk_shlN ((1 : Int32) &&& 31) 1 (by decide) (by omega)
theorem rc_tt {x : Bool} (h : ¬ x = false) : x = true := by cases x <;> first | rfl | exact absurd rfl h
theorem rc_ng {x : Int32} {n : Nat} (hn : n < 2 ^ 31) (h : nI n ≤ x) : ¬ x < 0 := by
  rw [Int32.le_iff_toInt_le, nI_toInt hn] at h
  rw [Int32.lt_iff_toInt_lt, show (0 : Int32).toInt = 0 from by decide]
  omega
theorem rc_gt {x : Int32} {n : Nat} (hn : n + 1 < 2 ^ 31) (h : nI (n + 1) ≤ x) : nI n < x := by
  rw [Int32.le_iff_toInt_le, nI_toInt hn] at h
  rw [Int32.lt_iff_toInt_lt, nI_toInt (by omega)]
  omega
def rc_uw (a : Nat → Int32) (c : Nat → Nat) : Nat → (Nat → Int32)
  | 0 => a
  | i + 1 => upd (rc_uw a c i) i (nI (c i))
theorem rc_uw_lt (a : Nat → Int32) (c : Nat → Nat) : ∀ i j, j < i → rc_uw a c i j = nI (c j) := by
  intro i
  induction i with
  | zero => intro j hj; omega
  | succ i ih =>
    intro j hj
    show upd (rc_uw a c i) i (nI (c i)) j = nI (c j)
    by_cases h : j = i
    · subst h; exact pk_us
    · rw [pk_un h]; exact ih j (by omega)
/-! ===== the component's walks ===== -/
theorem xp_loop {post : Int32 → Prop} {a b : Nat} (ha : a < 32) (hb : b < 32) : ∀ r s, r ≤ 5 → s < 32 → post (nI (rc_pd a b r s)) → wX_product_4 post (nI a) (nI b) (r + 1) (nI s) (nI r + (-1)) := by
  intro r
  induction r with
  | zero =>
    intro s _ hs hp
    exact br_t (by decide) hp
  | succ r ih =>
    intro s hr hs hp
    rw [pk_m1]
    have key : wX_product_23 post (wX_product_4 post (nI a) (nI b) (r + 1)) (nI a) (nI b) (nI (rc_t s)) (nI r) := by
      unfold wX_product_23
      by_cases h : b / 2 ^ r % 2 = 1
      · have e : rc_h a b r s = rc_t s ^^^ a := if_pos h
        refine br_t ((rc_bitI (by omega) (by omega)).mpr h) (nm_r (nx_xor _ _) (nm_e ?_))
        rw [← e]
        exact ih _ (by omega) (rc_h_lt ha hs) hp
      · have e : rc_h a b r s = rc_t s := if_neg h
        refine br_f (fun z => h ((rc_bitI (by omega) (by omega)).mp z)) (nm_e ?_)
        rw [← e]
        exact ih _ (by omega) (rc_h_lt ha hs) hp
    refine br_f (nI_pos (by omega)) (nm_r (rc_sh1 (by omega)) (pk_lt (s * 2) 32 (fun h => ?_) (fun h => nm_r (nx_xor (s * 2) 37) ?_)))
    · have e : rc_t s = s * 2 := if_neg (by omega)
      rw [e] at key
      exact key
    · have e : rc_t s = s * 2 ^^^ 37 := if_pos h
      rw [e] at key
      exact key
theorem xp {post : Int32 → Prop} {a b : Nat} (ha : a < 32) (hb : b < 32) (k : post (nI (rc_pr a b))) : wpX_product post (nI a) (nI b) := by
  have h := xp_loop ha hb 5 0 (by decide) (by decide) k
  rw [show nI 5 + (-1) = 4 from by decide] at h
  exact ⟨6, h⟩
theorem xe_n {post : Int32 → Prop} {x : Int32} (h : x < 0 ∨ nI 32 ≤ x) (k : post 0) : wpX_isElement post x := h.elim (fun h => br_t h k) (fun h => br_f (rc_ng (by decide) h) (br_t h k))
theorem xe_y {post : Int32 → Prop} {a : Nat} (ha : a < 32) (k : post 1) : wpX_isElement post (nI a) := br_f (nI_pos (by omega)) (br_f (nI_ge (b := 32) ha (by decide)) k)
theorem xs_n {post : Int32 → Prop} {x : Int32} (h : x < 0 ∨ nI 32 ≤ x) (k : post 0) : wpX_isSet post x := h.elim (fun h => br_t h k) (fun h => br_f (rc_ng (by decide) h) (br_t h k))
theorem xs_y {post : Int32 → Prop} {a : Nat} (ha : a < 32) (k : post 1) : wpX_isSet post (nI a) := br_f (nI_pos (by omega)) (br_f (nI_ge (b := 32) ha (by decide)) k)
theorem xl_n {post : Int32 → Prop} {x : Int32} (h : x < 0 ∨ nI 5 ≤ x) (k : post 0) : wpX_isPlace post x := h.elim (fun h => br_t h k) (fun h => br_f (rc_ng (by decide) h) (br_t h k))
theorem xl_y {post : Int32 → Prop} {a : Nat} (ha : a < 5) (k : post 1) : wpX_isPlace post (nI a) := br_f (nI_pos (by omega)) (br_f (nI_ge (b := 5) ha (by decide)) k)
theorem xcs {post : Int32 → Prop} {m0 m1 i : Nat} (h0 : m0 < 32) (h1 : m1 < 32) (hi : i < 5) (k : post (nI (rc_cs m0 m1 i))) : wpX_codeSymbol post (nI m0) (nI m1) (nI i) := by
  unfold wpX_codeSymbol
  refine nm_r (rc_1sh i (by omega)) ?_
  refine xp (rc_p2 i hi) (rc_p2 i hi) ?_
  refine xp h0 (rc_p2 i hi) ?_
  refine xp h1 (rc_pr_lt _ (rc_p2 i hi)) ?_
  exact ek_v (P := post) (nx_xor _ _) k
theorem xw_loop {post : SX → Prop} {m0 m1 : Nat} {fs fc fr : Int32} {aw ar : Nat → Int32} (h0 : m0 < 32) (h1 : m1 < 32) (k : post (fs, fc, fr, rc_uw aw (rc_cs m0 m1) 5, ar)) : ∀ d i, i + d = 5 → wX_writeCodeWord_2 post (nI m0) (nI m1) fs fc fr (d + 1) (nI i) (rc_uw aw (rc_cs m0 m1) i) ar := by
  intro d
  induction d with
  | zero =>
    intro i hi
    have : i = 5 := by omega
    subst this
    exact br_t (by decide) k
  | succ d ih =>
    intro i hi
    refine br_f (nI_ge (b := 5) (by omega) (by decide)) (xcs h0 h1 (by omega) ⟨vp_in_nI (by omega) (by decide), ?_⟩)
    rw [nI_clamp (show i < 2 ^ 31 by omega)]
    exact nm_e (nm_r (nI_1 i) (ih (i + 1) (by omega)))
theorem xw {post : SX → Prop} {m0 m1 : Nat} {fs fc fr : Int32} {aw ar : Nat → Int32} (h0 : m0 < 32) (h1 : m1 < 32) (k : post (fs, fc, fr, rc_uw aw (rc_cs m0 m1) 5, ar)) : wpX_writeCodeWord post (fs, fc, fr, aw, ar) (nI m0) (nI m1) := ⟨6, xw_loop h0 h1 k 5 0 rfl⟩
theorem xcb_loop {post : SX → Prop} {fs fc fr : Int32} {aw : Nat → Int32} {i : Nat} {g : Nat → Nat} (hi : i < 5) (hg : ∀ j, i ≤ j → j < 5 → g j < 32) (h0 : g i ≠ 0) (k : ∀ r', (∀ j, i < j → j < 5 → r' j = nI (rc_cl (g i) (g j))) → post (fs, fc, fr, aw, r')) : ∀ d j (r : Nat → Int32), j + d = 5 → i < j → r i = nI (g i) → (∀ t, j ≤ t → t < 5 → r t = nI (g t)) → (∀ t, i < t → t < j → r t = nI (rc_cl (g i) (g t))) → wX_clearBelow_19 post (nI i) (nI (g i) &&& (-(nI (g i)))) fs fc fr (d + 1) (nI j) aw r := by
  intro d
  induction d with
  | zero =>
    intro j r hj hij e0 h1 h2
    have : j = 5 := by omega
    subst this
    exact br_t (by decide) (k r h2)
  | succ d ih =>
    intro j r hj hij e0 h1 h2
    have hv := hg i (Nat.le_refl i) hi
    have hx := hg j (by omega) (by omega)
    have ej := h1 j (Nat.le_refl j) (by omega)
    have low := rc_lo_i (g i) hv h0 (g j) hx
    refine br_f (nI_ge (b := 5) (by omega) (by decide)) ⟨vp_in_nI (by omega) (by decide), ?_⟩
    rw [nI_clamp (show j < 2 ^ 31 by omega), nI_clamp (show i < 2 ^ 31 by omega), ej, e0]
    refine ek_if low (fun z => ?_) (fun z => ?_)
    · refine nm_r (nI_1 j) ?_
      refine ih (j + 1) r (by omega) (by omega) e0 (fun t a b => h1 t (by omega) b) (fun t a b => ?_)
      rcases Nat.lt_or_ge t j with y | y
      · exact h2 t a y
      · have : t = j := by omega
        subst this
        have e : rc_cl (g i) (g t) = g t := if_neg (by rw [z]; decide)
        rw [ej, e]
    · have z' := rc_tt z
      have e : rc_cl (g i) (g j) = g j ^^^ g i := if_pos z'
      refine ⟨vp_in_nI (by omega) (by decide), vp_in_nI (by omega) (by decide), vp_in_nI (by omega) (by decide), ?_⟩
      rw [nx_xor]
      refine nm_e (nm_r (nI_1 j) ?_)
      refine ih (j + 1) (upd r j (nI (g j ^^^ g i))) (by omega) (by omega) ((pk_un (by omega)).trans e0) (fun t a b => (pk_un (by omega)).trans (h1 t (by omega) b)) (fun t a b => ?_)
      rcases Nat.lt_or_ge t j with y | y
      · rw [pk_un (by omega)]
        exact h2 t a y
      · have : t = j := by omega
        subst this
        rw [pk_us, e]
theorem xcb {post : SX → Prop} {fs fc fr : Int32} {aw r : Nat → Int32} {i : Nat} {g : Nat → Nat} (hi : i < 5) (hg : ∀ j, i ≤ j → j < 5 → g j < 32) (h0 : g i ≠ 0) (hr : ∀ j, i ≤ j → j < 5 → r j = nI (g j)) (k : ∀ r', (∀ j, i < j → j < 5 → r' j = nI (rc_cl (g i) (g j))) → post (fs, fc, fr, aw, r')) : wpX_clearBelow post (fs, fc, fr, aw, r) (nI i) := by
  have e0 := hr i (Nat.le_refl i) hi
  unfold wpX_clearBelow
  dsimp only
  refine ⟨vp_in_nI hi (by decide), vp_in_nI hi (by decide), ?_⟩
  rw [nI_clamp (show i < 2 ^ 31 by omega), e0]
  exact nm_e (nm_r (nI_1 i) ⟨4 - i + 1, xcb_loop hi hg h0 k (4 - i) (i + 1) r (by omega) (by omega) e0 (fun t a b => hr t (by omega) b) (fun t a b => by omega)⟩)
theorem xrk_loop {post : Int32 → SX → Prop} {fs fc fr : Int32} {aw : Nat → Int32} : ∀ d i F (g : Nat → Nat) (r : Nat → Int32), i + d = 5 → (∀ j, i ≤ j → j < 5 → g j < 32 ∧ r j = nI (g j)) → (∀ r', post (nI (F + rc_er d (fun j => g (i + j)))) (fs, fc, fr, aw, r')) → wX_rankOfRows_4 post (d + 1) (nI F) (nI i) fs fc fr aw r := by
  intro d
  induction d with
  | zero =>
    intro i F g r hi h k
    have : i = 5 := by omega
    subst this
    exact br_t (by decide) (k r)
  | succ d ih =>
    intro i F g r hi h k
    obtain ⟨hv, ei⟩ := h i (Nat.le_refl i) (by omega)
    refine br_f (nI_ge (b := 5) (by omega) (by decide)) ⟨vp_in_nI (by omega) (by decide), ?_⟩
    rw [nI_clamp (show i < 2 ^ 31 by omega), ei]
    refine pk_eq (g i) 0 (fun z => nm_r (nI_1 i) ?_) (fun z => nm_r (nI_1 F) ?_)
    · refine ih (i + 1) F g r (by omega) (fun j a b => h j (by omega) b) (fun r' => ?_)
      have e : rc_er (d + 1) (fun j => g (i + j)) = rc_er d (fun j => g (i + 1 + j)) := (rc_er_s0 (show g (i + 0) = 0 from z)).trans (rc_er_ext _ _ _ (fun j _ => show g (i + (j + 1)) = g (i + 1 + j) by rw [show i + (j + 1) = i + 1 + j by omega]))
      rw [← e]
      exact k r'
    · refine xcb (g := g) (by omega) (fun j a b => (h j a b).1) z (fun j a b => (h j a b).2) (fun r' hr' => ?_)
      refine nm_r (nI_1 i) ?_
      refine ih (i + 1) (F + 1) (fun j => rc_cl (g i) (g j)) r' (by omega) (fun j a b => ⟨rc_cl_lt hv (h j (by omega) b).1, hr' j (by omega) b⟩) (fun r'' => ?_)
      have e : rc_er (d + 1) (fun j => g (i + j)) = rc_er d (fun j => rc_cl (g i) (g (i + 1 + j))) + 1 := (rc_er_s1 (show ¬ g (i + 0) = 0 from z)).trans (congrArg (fun t => t + 1) (rc_er_ext _ _ _ (fun j _ => show rc_cl (g i) (g (i + (j + 1))) = rc_cl (g i) (g (i + 1 + j)) by rw [show i + (j + 1) = i + 1 + j by omega])))
      have k' := k r''
      rw [e, show F + (rc_er d (fun j => rc_cl (g i) (g (i + 1 + j))) + 1) = F + 1 + rc_er d (fun j => rc_cl (g i) (g (i + 1 + j))) by omega] at k'
      exact k'
theorem xrk {post : Int32 → SX → Prop} {fs fc fr : Int32} {aw r : Nat → Int32} {g : Nat → Nat} (h : ∀ j, j < 5 → g j < 32 ∧ r j = nI (g j)) (k : ∀ r', post (nI (rc_er 5 g)) (fs, fc, fr, aw, r')) : wpX_rankOfRows post (fs, fc, fr, aw, r) := by
  refine ⟨6, xrk_loop 5 0 0 g r rfl (fun j _ b => h j b) (fun r' => ?_)⟩
  have e : rc_er 5 (fun j => g (0 + j)) = rc_er 5 g := rc_er_ext _ _ _ (fun j _ => show g (0 + j) = g j by rw [Nat.zero_add])
  rw [e, Nat.zero_add]
  exact k r'
theorem xwd_loop {post : Int32 → SX → Prop} {fs fc fr : Int32} {aw : Nat → Int32} {m0 m1 : Nat} {w : Nat → Nat} (h0 : m0 < 32) (h1 : m1 < 32) (hw : ∀ j, j < 5 → w j < 32 ∧ aw j = nI (w j)) (k : ∀ r', post (nI (rc_D w m0 m1)) (fs, fc, fr, aw, r')) : ∀ d i (r : Nat → Int32), i + d = 5 → (∀ j, j < i → r j = nI (w j ^^^ rc_cs m0 m1 j)) → wX_wordDistance_2 post (nI m0) (nI m1) fs fc fr (d + 1) (nI i) aw r := by
  intro d
  induction d with
  | zero =>
    intro i r hi hr
    have : i = 5 := by omega
    subst this
    exact br_t (by decide) (xrk (g := fun j => w j ^^^ rc_cs m0 m1 j) (fun j b => ⟨rc_x32 (hw j b).1 (rc_cs_lt j h0 h1), hr j b⟩) k)
  | succ d ih =>
    intro i r hi hr
    refine br_f (nI_ge (b := 5) (by omega) (by decide)) ⟨vp_in_nI (by omega) (by decide), xcs h0 h1 (by omega) ⟨vp_in_nI (by omega) (by decide), ?_⟩⟩
    rw [nI_clamp (show i < 2 ^ 31 by omega), (hw i (by omega)).2, nx_xor]
    refine nm_e (nm_r (nI_1 i) (ih (i + 1) _ (by omega) (fun j b => ?_)))
    by_cases h : j = i
    · subst h; exact pk_us
    · rw [pk_un h]; exact hr j (by omega)
theorem xwd {post : Int32 → SX → Prop} {fs fc fr : Int32} {aw r : Nat → Int32} {m0 m1 : Nat} {w : Nat → Nat} (h0 : m0 < 32) (h1 : m1 < 32) (hw : ∀ j, j < 5 → w j < 32 ∧ aw j = nI (w j)) (k : ∀ r', post (nI (rc_D w m0 m1)) (fs, fc, fr, aw, r')) : wpX_wordDistance post (fs, fc, fr, aw, r) (nI m0) (nI m1) := ⟨6, xwd_loop h0 h1 hw k 5 0 r rfl (fun j hj => by omega)⟩
theorem xcr_loop {post : Int32 → SX → Prop} {fs fc fr : Int32} {aw : Nat → Int32} {m0 m1 : Nat} (h0 : m0 < 32) (h1 : m1 < 32) (k : ∀ r', post (nI (rc_er 5 (rc_cs m0 m1))) (fs, fc, fr, aw, r')) : ∀ d i (r : Nat → Int32), i + d = 5 → (∀ j, j < i → r j = nI (rc_cs m0 m1 j)) → wX_codeWordRank_13 post (nI m0) (nI m1) fs fc fr (d + 1) (nI i) aw r := by
  intro d
  induction d with
  | zero =>
    intro i r hi hr
    have : i = 5 := by omega
    subst this
    exact br_t (by decide) (xrk (g := rc_cs m0 m1) (fun j b => ⟨rc_cs_lt j h0 h1, hr j b⟩) k)
  | succ d ih =>
    intro i r hi hr
    refine br_f (nI_ge (b := 5) (by omega) (by decide)) (xcs h0 h1 (by omega) ⟨vp_in_nI (by omega) (by decide), ?_⟩)
    rw [nI_clamp (show i < 2 ^ 31 by omega)]
    refine nm_e (nm_r (nI_1 i) (ih (i + 1) _ (by omega) (fun j b => ?_)))
    by_cases h : j = i
    · subst h; exact pk_us
    · rw [pk_un h]; exact hr j (by omega)
theorem xfe {post : Int32 → Prop} {n : Nat} (hn : n < 1024) (k : post (nI (n % 32))) : wpX_firstElement post (nI n) := ⟨by decide, ek_v (P := post) (pk_rem (a := n) (d := 32) (by omega) (by decide) (by decide)) k⟩
theorem xse {post : Int32 → Prop} {n : Nat} (hn : n < 1024) (k : post (nI (n / 32))) : wpX_secondElement post (nI n) := ⟨by decide, ek_v (P := post) (pk_div (a := n) (d := 32) (by omega) (by decide) (by decide)) k⟩
theorem xcr {post : Int32 → SX → Prop} {fs fc fr : Int32} {aw r : Nat → Int32} {n : Nat} (hn : n < 1024) (k : ∀ r', post (nI (rc_er 5 (rc_cs (n % 32) (n / 32)))) (fs, fc, fr, aw, r')) : wpX_codeWordRank post (fs, fc, fr, aw, r) (nI n) := by
  unfold wpX_codeWordRank
  dsimp only
  exact xfe hn (xse hn ⟨6, xcr_loop (by omega) (by omega) k 5 0 r rfl (fun j hj => by omega)⟩)
end
section
/-! ===== the component's searches and counts ===== -/
def rc_Dn (w : Nat → Nat) (n : Nat) : Nat := rc_D w (n % 32) (n / 32)
theorem xmw_some {post : Int32 → SX → Prop} {fs fr : Int32} {aw : Nat → Int32} {w : Nat → Nat} {c lim m : Nat} (hc : c ≤ 1024) (hl : lim ≤ 5) (hw : ∀ j, j < 5 → w j < 32 ∧ aw j = nI (w j)) (hm : m < c) (hD : rc_Dn w m ≤ lim) (hmin : ∀ m', m' < m → lim < rc_Dn w m') (k : ∀ r', post (nI m) (fs, nI c, fr, aw, r')) : ∀ d i (r : Nat → Int32), i + d = m → wX_messageWithin_2 post (nI lim) (d + 1) (nI i) fs (nI c) fr aw r := by
  intro d
  induction d with
  | zero =>
    intro i r hi
    have : i = m := by omega
    subst this
    have h5 := rc_D_le w (i % 32) (i / 32)
    refine br_f (nI_ge (b := c) (by omega) (by omega)) (xfe (by omega) (xse (by omega) (xwd (by omega) (by omega) hw (fun r' => ?_))))
    exact br_f (nI_nlt (show rc_D w (i % 32) (i / 32) ≤ lim from hD) (by omega)) (k r')
  | succ d ih =>
    intro i r hi
    have h5 := rc_D_le w (i % 32) (i / 32)
    refine br_f (nI_ge (b := c) (by omega) (by omega)) (xfe (by omega) (xse (by omega) (xwd (by omega) (by omega) hw (fun r' => ?_))))
    exact br_t (nI_lt (show lim < rc_D w (i % 32) (i / 32) from hmin i (by omega)) (by omega)) (nm_r (nI_1 i) (ih (i + 1) r' (by omega)))
theorem xmw_none {post : Int32 → SX → Prop} {fs fr : Int32} {aw : Nat → Int32} {w : Nat → Nat} {c lim : Nat} (hc : c ≤ 1024) (hl : lim ≤ 5) (hw : ∀ j, j < 5 → w j < 32 ∧ aw j = nI (w j)) (hmin : ∀ m', m' < c → lim < rc_Dn w m') (k : ∀ r', post (-4) (fs, nI c, fr, aw, r')) : ∀ d i (r : Nat → Int32), i + d = c → wX_messageWithin_2 post (nI lim) (d + 1) (nI i) fs (nI c) fr aw r := by
  intro d
  induction d with
  | zero =>
    intro i r hi
    exact br_t (nI_le (by omega) (by omega)) (k r)
  | succ d ih =>
    intro i r hi
    have h5 := rc_D_le w (i % 32) (i / 32)
    refine br_f (nI_ge (b := c) (by omega) (by omega)) (xfe (by omega) (xse (by omega) (xwd (by omega) (by omega) hw (fun r' => ?_))))
    exact br_t (nI_lt (show lim < rc_D w (i % 32) (i / 32) from hmin i (by omega)) (by omega)) (nm_r (nI_1 i) (ih (i + 1) r' (by omega)))
theorem xmS {post : Int32 → SX → Prop} {fs fr : Int32} {aw r : Nat → Int32} {w : Nat → Nat} {c lim m : Nat} (hc : c ≤ 1024) (hl : lim ≤ 5) (hw : ∀ j, j < 5 → w j < 32 ∧ aw j = nI (w j)) (hm : m < c) (hD : rc_Dn w m ≤ lim) (hmin : ∀ m', m' < m → lim < rc_Dn w m') (k : ∀ r', post (nI m) (fs, nI c, fr, aw, r')) : wpX_messageWithin post (fs, nI c, fr, aw, r) (nI lim) := ⟨m + 1, xmw_some hc hl hw hm hD hmin k m 0 r (by omega)⟩
theorem xmN {post : Int32 → SX → Prop} {fs fr : Int32} {aw r : Nat → Int32} {w : Nat → Nat} {c lim : Nat} (hc : c ≤ 1024) (hl : lim ≤ 5) (hw : ∀ j, j < 5 → w j < 32 ∧ aw j = nI (w j)) (hmin : ∀ m', m' < c → lim < rc_Dn w m') (k : ∀ r', post (-4) (fs, nI c, fr, aw, r')) : wpX_messageWithin post (fs, nI c, fr, aw, r) (nI lim) := ⟨c + 1, xmw_none hc hl hw hmin k c 0 r (by omega)⟩
def rc_pn (w : Nat → Nat) (n : Nat) : Nat := rc_pl w (rc_cs (n % 32) (n / 32)) 5
theorem rc_pn_lt (w : Nat → Nat) (n : Nat) : rc_pn w n < 32 := rc_pl_lt _ _ 5 (by decide)
theorem xdp_loop {post : Int32 → Prop} {fs fc fr : Int32} {aw ar : Nat → Int32} {m0 m1 : Nat} {w : Nat → Nat} (h0 : m0 < 32) (h1 : m1 < 32) (hw : ∀ j, j < 5 → w j < 32 ∧ aw j = nI (w j)) (k : post (nI (rc_pl w (rc_cs m0 m1) 5))) : ∀ d i, i + d = 5 → wX_differingPlaces_16 post (nI m0) (nI m1) fs fc fr aw ar (d + 1) (nI (rc_pl w (rc_cs m0 m1) i)) (nI i) := by
  intro d
  induction d with
  | zero =>
    intro i hi
    have : i = 5 := by omega
    subst this
    exact br_t (by decide) k
  | succ d ih =>
    intro i hi
    have hc := rc_cs_lt i h0 h1
    have hwi := (hw i (by omega)).1
    refine br_f (nI_ge (b := 5) (by omega) (by decide)) ⟨vp_in_nI (by omega) (by decide), xcs h0 h1 (by omega) ?_⟩
    rw [nI_clamp (show i < 2 ^ 31 by omega), (hw i (by omega)).2]
    have e2 : ¬ w i = rc_cs m0 m1 i → nI (rc_pl w (rc_cs m0 m1) i) ||| ((1 : Int32) <<< (nI i &&& 31)) = nI (rc_pl w (rc_cs m0 m1) (i + 1)) := by
      intro z
      have e : rc_pl w (rc_cs m0 m1) (i + 1) = rc_pl w (rc_cs m0 m1) i ||| 2 ^ i := if_neg z
      rw [e, rc_1sh i (by omega), nx_or]
    refine pk_eq (w i) (rc_cs m0 m1 i) (fun z => nm_r (nI_1 i) ?_) (fun z => nm_r (e2 z) (nm_r (nI_1 i) (ih (i + 1) (by omega))))
    have e : rc_pl w (rc_cs m0 m1) (i + 1) = rc_pl w (rc_cs m0 m1) i := if_pos z
    rw [← e]
    exact ih (i + 1) (by omega)
theorem xdp {post : Int32 → Prop} {fs fc fr : Int32} {aw ar : Nat → Int32} {w : Nat → Nat} {n : Nat} (hn : n < 1024) (hw : ∀ j, j < 5 → w j < 32 ∧ aw j = nI (w j)) (k : post (nI (rc_pn w n))) : wpX_differingPlaces post (fs, fc, fr, aw, ar) (nI n) := by
  unfold wpX_differingPlaces
  dsimp only
  exact xfe hn (xse hn ⟨6, xdp_loop (by omega) (by omega) hw k 5 0 rfl⟩)
theorem xsa_loop {post : Int32 → Prop} {p : Nat} (k : ∀ V, (∀ S, S < 32 → (bt V S = true ↔ rc_sb p S)) → post V) : ∀ d i (V : Int32), i + d = 32 → (∀ S, S < 32 → (bt V S = true ↔ S < i ∧ rc_sb p S)) → wX_setsAround_4 post (nI p) (d + 1) V (nI i) := by
  intro d
  induction d with
  | zero =>
    intro i V hi h
    have : i = 32 := by omega
    subst this
    exact br_t (by decide) (k V (fun S hS => (h S hS).trans ⟨fun z => z.2, fun z => ⟨hS, z⟩⟩))
  | succ d ih =>
    intro i V hi h
    refine br_f (nI_ge (b := 32) (by omega) (by decide)) (br_c (fun z => ?_) (fun z => ?_))
    · refine nm_e (nm_r (nI_1 i) (ih (i + 1) _ (by omega) (fun S hS => ?_)))
      rw [rc_or V (show i < 32 by omega) hS, h S hS]
      constructor
      · rintro (⟨a, b⟩ | a)
        · exact ⟨by omega, b⟩
        · subst a; exact ⟨by omega, z⟩
      · rintro ⟨a, b⟩
        rcases Nat.lt_or_ge S i with y | y
        · exact Or.inl ⟨y, b⟩
        · exact Or.inr (by omega)
    · refine nm_r (nI_1 i) (ih (i + 1) _ (by omega) (fun S hS => ?_))
      rw [h S hS]
      constructor
      · rintro ⟨a, b⟩
        exact ⟨by omega, b⟩
      · rintro ⟨a, b⟩
        rcases Nat.lt_or_ge S i with y | y
        · exact ⟨y, b⟩
        · have : S = i := by omega
          subst this
          exact absurd b z
theorem xsa {post : Int32 → Prop} {p : Nat} (k : ∀ V, (∀ S, S < 32 → (bt V S = true ↔ rc_sb p S)) → post V) : wpX_setsAround post (nI p) := ⟨33, xsa_loop k 32 0 0 rfl (fun S hS => by rw [b_0]; exact ⟨fun z => (nomatch z), fun z => absurd z.1 (Nat.not_lt_zero S)⟩)⟩
theorem xco2 {post : Int32 → Prop} {fs fc fr : Int32} {aw ar : Nat → Int32} {C : Int32} (k : post (nI (rc_ct (bt C) 32))) : ∀ d i, i + d = 32 → wX_coverings_35 post C fs fc fr aw ar (d + 1) (nI (rc_ct (bt C) i)) (nI i) := by
  intro d
  induction d with
  | zero =>
    intro i hi
    have : i = 32 := by omega
    subst this
    exact br_t (by decide) k
  | succ d ih =>
    intro i hi
    refine br_f (nI_ge (b := 32) (by omega) (by decide)) ?_
    rw [rc_bu C (show i < 32 by omega)]
    have e : nI (rc_ct (bt C) i) + (if bt C i = true then 1 else 0) = nI (rc_ct (bt C) (i + 1)) := by
      show _ = nI (if bt C i = true then rc_ct (bt C) i + 1 else rc_ct (bt C) i)
      by_cases z : bt C i = true
      · rw [if_pos z, if_pos z, nI_1]
      · rw [if_neg z, if_neg z, Int32.add_zero]
    exact nm_r e (nm_r (nI_1 i) (ih (i + 1) (by omega)))
theorem xco1 {post : Int32 → Prop} {fs fr : Int32} {aw ar : Nat → Int32} {w : Nat → Nat} {c : Nat} (hc : c ≤ 1024) (hw : ∀ j, j < 5 → w j < 32 ∧ aw j = nI (w j)) (k : ∀ P : Nat → Bool, (∀ S, S < 32 → (P S = true ↔ ∃ m, m < c ∧ rc_sb (rc_pn w m) S)) → post (nI (rc_ct P 32))) : ∀ d i (C : Int32), i + d = c → (∀ S, S < 32 → (bt C S = true ↔ ∃ m, m < i ∧ rc_sb (rc_pn w m) S)) → wX_coverings_4 post fs (nI c) fr aw ar (d + 1) C (nI i) := by
  intro d
  induction d with
  | zero =>
    intro i C hi h
    have : i = c := by omega
    subst this
    exact br_t (nI_le (by omega) (by omega)) ⟨33, xco2 (k (bt C) h) 32 0 rfl⟩
  | succ d ih =>
    intro i C hi h
    refine br_f (nI_ge (b := c) (by omega) (by omega)) (xdp (by omega) hw (xsa (fun V hV => ?_)))
    refine nm_e (nm_r (nI_1 i) (ih (i + 1) _ (by omega) (fun S hS => ?_)))
    rw [b_or, Bool.or_eq_true, h S hS, hV S hS]
    constructor
    · rintro (⟨m, a, b⟩ | a)
      · exact ⟨m, by omega, b⟩
      · exact ⟨i, by omega, a⟩
    · rintro ⟨m, a, b⟩
      rcases Nat.lt_or_ge m i with y | y
      · exact Or.inl ⟨m, y, b⟩
      · have : m = i := by omega
        subst this
        exact Or.inr b
theorem xco {post : Int32 → Prop} {fs fr : Int32} {aw ar : Nat → Int32} {w : Nat → Nat} {c : Nat} (hc : c ≤ 1024) (hw : ∀ j, j < 5 → w j < 32 ∧ aw j = nI (w j)) (k : ∀ P : Nat → Bool, (∀ S, S < 32 → (P S = true ↔ ∃ m, m < c ∧ rc_sb (rc_pn w m) S)) → post (nI (rc_ct P 32))) : wpX_coverings post (fs, nI c, fr, aw, ar) := ⟨c + 1, xco1 hc hw k c 0 0 (by omega) (fun S hS => by rw [b_0]; exact ⟨fun z => (nomatch z), fun ⟨m, a, _⟩ => absurd a (Nat.not_lt_zero m)⟩)⟩
def rc_cp (x : Int32) (n : Nat) : Bool := decide (nI (rc_er 5 (rc_cs (n % 32) (n / 32))) = x)
theorem xce_loop {post : Int32 → SX → Prop} {fs fr : Int32} {aw : Nat → Int32} {c : Nat} {x : Int32} (hc : c ≤ 1024) (k : ∀ r', post (nI (rc_ct (rc_cp x) c)) (fs, nI c, fr, aw, r')) : ∀ d i (r : Nat → Int32), i + d = c → wX_census_4 post x (d + 1) (nI (rc_ct (rc_cp x) i)) (nI i) fs (nI c) fr aw r := by
  intro d
  induction d with
  | zero =>
    intro i r hi
    have : i = c := by omega
    subst this
    exact br_t (nI_le (by omega) (by omega)) (k r)
  | succ d ih =>
    intro i r hi
    refine br_f (nI_ge (b := c) (by omega) (by omega)) (xcr (by omega) (fun r' => br_c (fun z => ?_) (fun z => ?_)))
    · have e : rc_ct (rc_cp x) (i + 1) = rc_ct (rc_cp x) i + 1 := if_pos (decide_eq_true z)
      have h := ih (i + 1) r' (by omega)
      rw [e] at h
      exact nm_r (nI_1 _) (nm_r (nI_1 i) h)
    · have e : rc_ct (rc_cp x) (i + 1) = rc_ct (rc_cp x) i := if_neg (fun y => z (of_decide_eq_true y))
      have h := ih (i + 1) r' (by omega)
      rw [e] at h
      exact nm_r (nI_1 i) h
theorem xce {post : Int32 → SX → Prop} {fs fr : Int32} {aw r : Nat → Int32} {c : Nat} {x : Int32} (hc : c ≤ 1024) (k : ∀ r', post (nI (rc_ct (rc_cp x) c)) (fs, nI c, fr, aw, r')) : wpX_census post (fs, nI c, fr, aw, r) x := ⟨c + 1, xce_loop hc k c 0 r (by omega)⟩
/-- over: the last x with b times x = a -/
def rc_ov (a b : Nat) : Nat → Nat
  | 0 => 0
  | i + 1 => if rc_pr b i = a then i else rc_ov a b i
theorem xov_loop {post : Int32 → Prop} {fs fc fr : Int32} {aw ar : Nat → Int32} {a b : Nat} (ha : a < 32) (hb : b < 32) (k : post (nI (rc_ov a b 32))) : ∀ d i, i + d = 32 → wX_over_25 post (nI a) (nI b) fs fc fr aw ar (d + 1) (nI (rc_ov a b i)) (nI i) := by
  intro d
  induction d with
  | zero =>
    intro i hi
    have : i = 32 := by omega
    subst this
    exact br_t (by decide) k
  | succ d ih =>
    intro i hi
    have hp := rc_pr_lt i hb
    refine br_f (nI_ge (b := 32) (by omega) (by decide)) (xp hb (by omega) (pk_eq (rc_pr b i) a (fun z => ?_) (fun z => ?_)))
    · have e : rc_ov a b (i + 1) = i := if_pos z
      have h := ih (i + 1) (by omega)
      rw [e] at h
      exact nm_r (nI_1 i) h
    · have e : rc_ov a b (i + 1) = rc_ov a b i := if_neg z
      have h := ih (i + 1) (by omega)
      rw [e] at h
      exact nm_r (nI_1 i) h
/-- disturb: the word after the first i places -/
def rc_dw (aw : Nat → Int32) (a s : Nat) : Nat → (Nat → Int32)
  | 0 => aw
  | i + 1 => if s / 2 ^ i % 2 = 1 then upd (rc_dw aw a s i) i (rc_dw aw a s i i ^^^ nI a) else rc_dw aw a s i
theorem xdi_loop {post : Int32 → SX → Prop} {fs fc fr : Int32} {aw ar : Nat → Int32} {a s : Nat} (hs : s < 32) (k : wpX_wordDistance post (fs, fc, fr, rc_dw aw a s 5, ar) 0 0) : ∀ d i, i + d = 5 → wX_disturb_18 post (nI a) (nI s) fs fc fr (d + 1) (nI i) (rc_dw aw a s i) ar := by
  intro d
  induction d with
  | zero =>
    intro i hi
    have : i = 5 := by omega
    subst this
    exact br_t (by decide) k
  | succ d ih =>
    intro i hi
    refine br_f (nI_ge (b := 5) (by omega) (by decide)) (ek_if (rc_bitI (show s < 2 ^ 31 by omega) (show i < 32 by omega)) (fun z => ⟨vp_in_nI (by omega) (by decide), vp_in_nI (by omega) (by decide), ?_⟩) (fun z => ?_))
    · have e : rc_dw aw a s (i + 1) = upd (rc_dw aw a s i) i (rc_dw aw a s i i ^^^ nI a) := if_pos z
      have h := ih (i + 1) (by omega)
      rw [e] at h
      rw [nI_clamp (show i < 2 ^ 31 by omega)]
      exact nm_e (nm_r (nI_1 i) h)
    · have e : rc_dw aw a s (i + 1) = rc_dw aw a s i := if_neg z
      have h := ih (i + 1) (by omega)
      rw [e] at h
      exact nm_r (nI_1 i) h
/-- the disturbed word's symbols -/
def rc_dv (w : Nat → Nat) (a s : Nat) (j : Nat) : Nat := if s / 2 ^ j % 2 = 1 then w j ^^^ a else w j
theorem rc_dw_ge (aw : Nat → Int32) (a s : Nat) : ∀ i j, i ≤ j → rc_dw aw a s i j = aw j := by
  intro i
  induction i with
  | zero => intro j _; rfl
  | succ i ih =>
    intro j hj
    show (if s / 2 ^ i % 2 = 1 then upd (rc_dw aw a s i) i (rc_dw aw a s i i ^^^ nI a) else rc_dw aw a s i) j = aw j
    split
    · rw [pk_un (by omega)]; exact ih j (by omega)
    · exact ih j (by omega)
theorem rc_dw_lt (aw : Nat → Int32) (a s : Nat) {w : Nat → Nat} (hw : ∀ j, j < 5 → w j < 32 ∧ aw j = nI (w j)) : ∀ i j, j < i → i ≤ 5 → rc_dw aw a s i j = nI (rc_dv w a s j) := by
  intro i
  induction i with
  | zero => intro j hj; omega
  | succ i ih =>
    intro j hj hi
    show (if s / 2 ^ i % 2 = 1 then upd (rc_dw aw a s i) i (rc_dw aw a s i i ^^^ nI a) else rc_dw aw a s i) j = nI (rc_dv w a s j)
    by_cases h : j = i
    · subst h
      by_cases z : s / 2 ^ j % 2 = 1
      · rw [if_pos z, pk_us, rc_dw_ge aw a s j j (Nat.le_refl j), (hw j (by omega)).2, nx_xor]
        exact congrArg nI (if_pos z).symm
      · rw [if_neg z, rc_dw_ge aw a s j j (Nat.le_refl j), (hw j (by omega)).2]
        exact congrArg nI (if_neg z).symm
    · split
      · rw [pk_un h]; exact ih j (by omega) (by omega)
      · exact ih j (by omega) (by omega)
theorem rc_dv_lt {w : Nat → Nat} {a s j : Nat} (ha : a < 32) (hj : w j < 32) : rc_dv w a s j < 32 := by
  unfold rc_dv
  split
  · exact rc_x32 hj ha
  · exact hj
end
section
/-! ===== the reference's walks ===== -/
theorem rc_ff {x : Bool} (h : ¬ x = true) : x = false := by cases x <;> first | rfl | exact absurd rfl h
theorem rc_37 : ∀ r, r < 4 → (37 : Int32) <<< ((nI (r + 5) - 5) &&& 31) = nI (37 * 2 ^ r) := by decide +kernel
theorem yp2 {post : Int32 → Prop} {fk : Int32} {aw ac am ah : Nat → Int32} : ∀ r w, r ≤ 4 → w < 512 → post (nI (rc_qd r w)) → wY_product_38 post fk aw ac am ah (r + 1) (nI w) (nI (r + 4)) := by
  intro r
  induction r with
  | zero =>
    intro w _ hw hp
    exact br_t (by decide) hp
  | succ r ih =>
    intro w hr hw hp
    rw [show r + 1 + 4 = r + 5 by omega]
    have hp' : post (nI (rc_qd r (rc_v r w))) := hp
    refine br_f (nI_nlt (b := 5) (by omega) (by omega)) (ek_if (rc_bitI (show w < 2 ^ 31 by omega) (show r + 5 < 32 by omega)) (fun z => ?_) (fun z => ?_))
    · have e : rc_v r w = w ^^^ (37 * 2 ^ r) := if_pos z
      rw [rc_37 r (by omega), nx_xor]
      have h := ih (rc_v r w) (by omega) (rc_v_lt (by omega) hw) hp'
      rw [e] at h
      exact nm_e (nm_r (pk_m1 (r + 4)) h)
    · have e : rc_v r w = w := if_neg z
      have h := ih (rc_v r w) (by omega) (rc_v_lt (by omega) hw) hp'
      rw [e] at h
      exact nm_r (pk_m1 (r + 4)) h
theorem yp_loop {post : Int32 → Prop} {fk : Int32} {aw ac am ah : Nat → Int32} {a b : Nat} (ha : a < 32) (hb : b < 32) (k : post (nI (rc_pr a b))) : ∀ d i, i + d = 5 → wY_product_5 post (nI a) (nI b) fk aw ac am ah (d + 1) (nI (rc_wi a b i)) (nI i) := by
  intro d
  induction d with
  | zero =>
    intro i hi
    have : i = 5 := by omega
    subst this
    rw [← rc_qr a ha b hb] at k
    exact br_t (by decide) ⟨5, yp2 4 _ (by decide) (rc_wi_lt b ha 5 (by decide)) k⟩
  | succ d ih =>
    intro i hi
    have h16 := rc_p16 i (by omega)
    have hm : a * 2 ^ i ≤ a * 16 := Nat.mul_le_mul_left a h16
    refine br_f (nI_ge (b := 5) (by omega) (by decide)) (ek_if (rc_bitI (show b < 2 ^ 31 by omega) (show i < 32 by omega)) (fun z => ?_) (fun z => ?_))
    · have e : rc_wi a b (i + 1) = rc_wi a b i ^^^ (a * 2 ^ i) := if_pos z
      have h := ih (i + 1) (by omega)
      rw [e] at h
      rw [pk_shlN (nI i &&& 31) i (s_l i (by omega)) (by omega), nx_xor]
      exact nm_e (nm_r (nI_1 i) h)
    · have e : rc_wi a b (i + 1) = rc_wi a b i := if_neg z
      have h := ih (i + 1) (by omega)
      rw [e] at h
      exact nm_r (nI_1 i) h
theorem yp {post : Int32 → Prop} {fk : Int32} {aw ac am ah : Nat → Int32} {a b : Nat} (ha : a < 32) (hb : b < 32) (k : post (nI (rc_pr a b))) : wpY_product post (fk, aw, ac, am, ah) (nI a) (nI b) := ⟨6, yp_loop ha hb k 5 0 rfl⟩
theorem ye_n {post : Int32 → Prop} {fk : Int32} {aw ac am ah : Nat → Int32} {x : Int32} (h : x < 0 ∨ nI 32 ≤ x) (k : post 0) : wpY_isElement post (fk, aw, ac, am, ah) x := h.elim (fun h => br_t h k) (fun h => br_f (rc_ng (by decide) h) (br_t (rc_gt (n := 31) (by decide) h) k))
theorem ye_y {post : Int32 → Prop} {fk : Int32} {aw ac am ah : Nat → Int32} {a : Nat} (ha : a < 32) (k : post 1) : wpY_isElement post (fk, aw, ac, am, ah) (nI a) := br_f (nI_pos (by omega)) (br_f (nI_nlt (a := 31) (by omega) (by decide)) k)
theorem ycw_loop {post : SY → Prop} {fk : Int32} {aw ac am ah : Nat → Int32} {m0 m1 : Nat} (h0 : m0 < 32) (h1 : m1 < 32) (k : post (fk, aw, rc_uw ac (rc_cs m0 m1) 5, am, ah)) : ∀ d i, i + d = 5 → wY_codeWord_2 post (nI m0) (nI m1) fk (d + 1) (nI i) aw (rc_uw ac (rc_cs m0 m1) i) am ah := by
  intro d
  induction d with
  | zero =>
    intro i hi
    have : i = 5 := by omega
    subst this
    exact br_t (by decide) k
  | succ d ih =>
    intro i hi
    have h2 := rc_p2 i (by omega)
    refine br_f (nI_ge (b := 5) (by omega) (by decide)) (nm_r (rc_1sh i (by omega)) ?_)
    refine yp h2 h2 ?_
    refine yp h0 h2 ?_
    refine yp h1 (rc_pr_lt _ h2) ⟨vp_in_nI (by omega) (by decide), ?_⟩
    rw [nI_clamp (show i < 2 ^ 31 by omega), nx_xor]
    exact nm_e (nm_r (nI_1 i) (ih (i + 1) (by omega)))
theorem ycw {post : SY → Prop} {fk : Int32} {aw ac am ah : Nat → Int32} {m0 m1 : Nat} (h0 : m0 < 32) (h1 : m1 < 32) (k : ∀ ac', (∀ j, j < 5 → rc_cs m0 m1 j < 32 ∧ ac' j = nI (rc_cs m0 m1 j)) → post (fk, aw, ac', am, ah)) : wpY_codeWord post (fk, aw, ac, am, ah) (nI m0) (nI m1) := ⟨6, ycw_loop h0 h1 (k _ (fun j hj => ⟨rc_cs_lt j h0 h1, rc_uw_lt ac (rc_cs m0 m1) 5 j hj⟩)) 5 0 rfl⟩
theorem yr_in {post : Int32 → Prop} {J7 : Int32 → Int32 → Int32 → Prop} {x1 S R fk : Int32} {aw ac am ah : Nat → Int32} {i s : Nat} (hi : i < 5) (hs : s < 32) (es : am i = nI s) (k : ∀ M, rc_Mo S M s 32 → J7 M R (nI (i + 1))) : ∀ d x (M : Int32), x + d = 32 → rc_Mo S M s x → wY_rankOfSum_41 post J7 x1 S R (nI i) fk aw ac am ah (d + 1) M (nI x) := by
  intro d
  induction d with
  | zero =>
    intro x M hx h
    have : x = 32 := by omega
    subst this
    exact br_t (by decide) (nm_r (nI_1 i) (k M h))
  | succ d ih =>
    intro x M hx h
    refine br_f (nI_ge (b := 32) (by omega) (by decide)) (ek_if (rc_bv1 S (show x < 32 by omega)) (fun z => ⟨vp_in_nI hi (by decide), ?_⟩) (fun z => nm_r (nI_1 x) (ih (x + 1) M (by omega) (rc_MoS h (rc_ff z)))))
    rw [nI_clamp (show i < 2 ^ 31 by omega), es, nx_xor]
    exact nm_e (nm_r (nI_1 x) (ih (x + 1) _ (by omega) (rc_MoA h (by omega) hs z)))
theorem yr_loop {post : Int32 → Prop} {fk : Int32} {aw ac am ah : Nat → Int32} {lim : Nat} {s : Nat → Nat} (hl : lim ≤ 5) (hs : ∀ j, j < 5 → s j < 32 ∧ am j = nI (s j)) : ∀ d i R (S : Int32) (red : Nat → Nat), i + d = 5 → R ≤ i → rc_Sp S red → (∀ q, (q = R + rc_er d (fun j => red (s (i + j))) ∨ (lim < q ∧ q ≤ R + rc_er d (fun j => red (s (i + j))))) → post (nI q)) → wY_rankOfSum_7 post (nI lim) fk aw ac am ah (d + 1) S (nI R) (nI i) := by
  intro d
  induction d with
  | zero =>
    intro i R S red hi hR hS k
    have : i = 5 := by omega
    subst this
    exact br_t (by decide) (k R (Or.inl rfl))
  | succ d ih =>
    intro i R S red hi hR hS k
    obtain ⟨h32, ei⟩ := hs i (by omega)
    refine br_f (nI_ge (b := 5) (by omega) (by decide)) (pk_lt lim R (fun z => k R (Or.inr ⟨z, Nat.le_add_right _ _⟩)) (fun z => ⟨vp_in_nI (by omega) (by decide), ?_⟩))
    rw [nI_clamp (show i < 2 ^ 31 by omega), ei]
    refine ek_if (rc_bv0 S h32) (fun y => ?_) (fun y => ?_)
    · have h0 : red (s i) ≠ 0 := fun e => by rw [(hS.1 (s i) h32).mpr e] at y; cases y
      refine nm_r (nI_1 R) ⟨33, yr_in (by omega) h32 ei (fun M hM => ?_) 32 0 S rfl (rc_Mo0 S (s i))⟩
      refine ih (i + 1) (R + 1) M (fun x => rc_cl (red (s i)) (red x)) (by omega) (by omega) (rc_Sp1 hS h32 h0 (rc_MoE hM h32)) (fun q hq => k q ?_)
      have e : rc_er (d + 1) (fun j => red (s (i + j))) = rc_er d (fun j => rc_cl (red (s i)) (red (s (i + 1 + j)))) + 1 := (rc_er_s1 (show ¬ red (s (i + 0)) = 0 from h0)).trans (congrArg (fun t => t + 1) (rc_er_ext _ _ _ (fun j _ => show rc_cl (red (s i)) (red (s (i + (j + 1)))) = rc_cl (red (s i)) (red (s (i + 1 + j))) by rw [show i + (j + 1) = i + 1 + j by omega])))
      rw [e]
      have hq' : q = R + 1 + rc_er d (fun j => rc_cl (red (s i)) (red (s (i + 1 + j)))) ∨ (lim < q ∧ q ≤ R + 1 + rc_er d (fun j => rc_cl (red (s i)) (red (s (i + 1 + j))))) := hq
      generalize rc_er d (fun j => rc_cl (red (s i)) (red (s (i + 1 + j)))) = E at hq' ⊢
      omega
    · have h0 : red (s i) = 0 := (hS.1 (s i) h32).mp (rc_tt y)
      refine nm_r (nI_1 i) (ih (i + 1) R S red (by omega) (by omega) hS (fun q hq => k q ?_))
      have e : rc_er (d + 1) (fun j => red (s (i + j))) = rc_er d (fun j => red (s (i + 1 + j))) := (rc_er_s0 (show red (s (i + 0)) = 0 from h0)).trans (rc_er_ext _ _ _ (fun j _ => show red (s (i + (j + 1))) = red (s (i + 1 + j)) by rw [show i + (j + 1) = i + 1 + j by omega]))
      rw [e]
      exact hq
theorem yr {post : Int32 → Prop} {fk : Int32} {aw ac am ah : Nat → Int32} {lim : Nat} {s : Nat → Nat} (hl : lim ≤ 5) (hs : ∀ j, j < 5 → s j < 32 ∧ am j = nI (s j)) (k : ∀ q, (q = rc_er 5 s ∨ (lim < q ∧ q ≤ rc_er 5 s)) → post (nI q)) : wpY_rankOfSum post (fk, aw, ac, am, ah) (nI lim) := by
  refine ⟨6, yr_loop hl hs 5 0 0 1 (fun x => x) rfl (Nat.le_refl 0) rc_Sp0 (fun q hq => k q ?_)⟩
  have e : rc_er 5 (fun j => s (0 + j)) = rc_er 5 s := rc_er_ext _ _ _ (fun j _ => show s (0 + j) = s j by rw [Nat.zero_add])
  have hq' : q = 0 + rc_er 5 (fun j => s (0 + j)) ∨ (lim < q ∧ q ≤ 0 + rc_er 5 (fun j => s (0 + j))) := hq
  rw [e, Nat.zero_add] at hq'
  exact hq'
theorem yr5 {post : Int32 → Prop} {fk : Int32} {aw ac am ah : Nat → Int32} {s : Nat → Nat} (hs : ∀ j, j < 5 → s j < 32 ∧ am j = nI (s j)) (k : post (nI (rc_er 5 s))) : wpY_rankOfSum post (fk, aw, ac, am, ah) 5 := yr (lim := 5) (by decide) hs (fun q hq => by
  have h := rc_er_le 5 s
  have e : q = rc_er 5 s := by omega
  rw [e]
  exact k)
theorem yd_loop {post : Int32 → SY → Prop} {fk : Int32} {aw ac ah : Nat → Int32} {lim : Nat} {w c : Nat → Nat} (hl : lim ≤ 5) (hw : ∀ j, j < 5 → w j < 32 ∧ aw j = nI (w j)) (hc : ∀ j, j < 5 → c j < 32 ∧ ac j = nI (c j)) (k : ∀ am' q, (q = rc_er 5 (fun j => w j ^^^ c j) ∨ (lim < q ∧ q ≤ rc_er 5 (fun j => w j ^^^ c j))) → post (nI q) (fk, aw, ac, am', ah)) : ∀ d i (am : Nat → Int32), i + d = 5 → (∀ j, j < i → am j = nI (w j ^^^ c j)) → wY_distanceTo_9 post (nI lim) fk (d + 1) (nI i) aw ac am ah := by
  intro d
  induction d with
  | zero =>
    intro i am hi hm
    have : i = 5 := by omega
    subst this
    exact br_t (by decide) (yr (s := fun j => w j ^^^ c j) hl (fun j hj => ⟨rc_x32 (hw j hj).1 (hc j hj).1, hm j hj⟩) (fun q hq => k am q hq))
  | succ d ih =>
    intro i am hi hm
    refine br_f (nI_ge (b := 5) (by omega) (by decide)) ⟨vp_in_nI (by omega) (by decide), vp_in_nI (by omega) (by decide), vp_in_nI (by omega) (by decide), ?_⟩
    rw [nI_clamp (show i < 2 ^ 31 by omega), (hw i (by omega)).2, (hc i (by omega)).2, nx_xor]
    refine nm_e (nm_r (nI_1 i) (ih (i + 1) _ (by omega) (fun j b => ?_)))
    by_cases h : j = i
    · subst h; exact pk_us
    · rw [pk_un h]; exact hm j (by omega)
theorem yd {post : Int32 → SY → Prop} {fk : Int32} {aw ac am ah : Nat → Int32} {lim m0 m1 : Nat} {w : Nat → Nat} (hl : lim ≤ 5) (h0 : m0 < 32) (h1 : m1 < 32) (hw : ∀ j, j < 5 → w j < 32 ∧ aw j = nI (w j)) (k : ∀ ac' am' q, (q = rc_D w m0 m1 ∨ (lim < q ∧ q ≤ rc_D w m0 m1)) → post (nI q) (fk, aw, ac', am', ah)) : wpY_distanceTo post (fk, aw, ac, am, ah) (nI m0) (nI m1) (nI lim) := by
  unfold wpY_distanceTo
  dsimp only
  exact ycw h0 h1 (fun ac' hc => ⟨6, yd_loop hl hw hc (fun am' q hq => k ac' am' q hq) 5 0 am rfl (fun j hj => by omega)⟩)
theorem yd5 {post : Int32 → SY → Prop} {fk : Int32} {aw ac am ah : Nat → Int32} {m0 m1 : Nat} {w : Nat → Nat} (h0 : m0 < 32) (h1 : m1 < 32) (hw : ∀ j, j < 5 → w j < 32 ∧ aw j = nI (w j)) (k : ∀ ac' am', post (nI (rc_D w m0 m1)) (fk, aw, ac', am', ah)) : wpY_distanceTo post (fk, aw, ac, am, ah) (nI m0) (nI m1) 5 := yd (lim := 5) (by decide) h0 h1 hw (fun ac' am' q hq => by
  have h := rc_D_le w m0 m1
  have e : q = rc_D w m0 m1 := by omega
  rw [e]
  exact k ac' am')
theorem yen_loop {post : Int32 → SY → Prop} {fk : Int32} {aw ac am ah : Nat → Int32} {c : Nat → Nat} (hc : ∀ j, j < 5 → c j < 32 ∧ ac j = nI (c j)) (k : post 0 (fk, rc_uw aw c 5, ac, am, ah)) : ∀ d i, i + d = 5 → wY_encode_19 post fk (d + 1) (nI i) (rc_uw aw c i) ac am ah := by
  intro d
  induction d with
  | zero =>
    intro i hi
    have : i = 5 := by omega
    subst this
    exact br_t (by decide) k
  | succ d ih =>
    intro i hi
    refine br_f (nI_ge (b := 5) (by omega) (by decide)) ⟨vp_in_nI (by omega) (by decide), vp_in_nI (by omega) (by decide), ?_⟩
    rw [nI_clamp (show i < 2 ^ 31 by omega), (hc i (by omega)).2]
    exact nm_e (nm_r (nI_1 i) (ih (i + 1) (by omega)))
/-- messages: both sides say the same of two numbers -/
theorem rc_msg {fc fr : Int32} {aw ar aw' ac am ah : Nat → Int32} {K : Nat} (hK : K = 1 ∨ K = 2) (x y : Int32) :
    (∃ m0 m1, m0 < 32 ∧ m1 < 32 ∧ x = nI m0 ∧ y = nI m1 ∧ (∀ post : Int32 → Prop, post 1 → wpX_isMessage post (nI K, fc, fr, aw, ar) x y) ∧ (∀ post : Int32 → Prop, post 1 → wpY_isMessage post (nI K, aw', ac, am, ah) x y)) ∨
    ((∀ post : Int32 → Prop, post 0 → wpX_isMessage post (nI K, fc, fr, aw, ar) x y) ∧ (∀ post : Int32 → Prop, post 0 → wpY_isMessage post (nI K, aw', ac, am, ah) x y)) := by
  have bad : ∀ z : Int32, (z < 0 ∨ nI 32 ≤ z) ∨ ∃ j, j < 32 ∧ z = nI j := fun z => by
    rcases pk_ix z (n := 32) (by decide) with h | h | h
    · exact Or.inl (Or.inl h)
    · exact Or.inl (Or.inr h)
    · exact Or.inr h
  have n10 : ¬ (1 : Int32) = 0 := by decide
  unfold wpX_isMessage wpY_isMessage
  dsimp only
  rcases bad x with hx | ⟨m0, h0, rfl⟩
  · exact Or.inr ⟨fun post k => xe_n hx (br_t rfl k), fun post k => ye_n hx (br_t rfl k)⟩
  rcases bad y with hy | ⟨m1, h1, rfl⟩
  · exact Or.inr ⟨fun post k => xe_y h0 (br_f n10 (xe_n hy (br_t rfl k))), fun post k => ye_y h0 (br_f n10 (ye_n hy (br_t rfl k)))⟩
  rcases hK with rfl | rfl
  · have n12 : ¬ nI 1 = 2 := by decide
    by_cases z : m1 = 0
    · subst z
      exact Or.inl ⟨m0, 0, h0, h1, rfl, rfl, fun post k => xe_y h0 (br_f n10 (xe_y h1 (br_f n10 (br_f n12 (br_t rfl k))))), fun post k => ye_y h0 (br_f n10 (ye_y h1 (br_f n10 (br_f n12 (br_t rfl k)))))⟩
    · have z' : ¬ nI m1 = 0 := nI_ne0 (by omega) (by omega)
      exact Or.inr ⟨fun post k => xe_y h0 (br_f n10 (xe_y h1 (br_f n10 (br_f n12 (br_f z' k))))), fun post k => ye_y h0 (br_f n10 (ye_y h1 (br_f n10 (br_f n12 (br_f z' k)))))⟩
  · exact Or.inl ⟨m0, m1, h0, h1, rfl, rfl, fun post k => xe_y h0 (br_f n10 (xe_y h1 (br_f n10 (br_t rfl k)))), fun post k => ye_y h0 (br_f n10 (ye_y h1 (br_f n10 (br_t rfl k))))⟩
theorem yen {post : Int32 → SY → Prop} {fk : Int32} {aw ac am ah : Nat → Int32} {m0 m1 : Nat} (h0 : m0 < 32) (h1 : m1 < 32) (hm : ∀ post : Int32 → Prop, post 1 → wpY_isMessage post (fk, aw, ac, am, ah) (nI m0) (nI m1)) (k : ∀ ac', post 0 (fk, rc_uw aw (rc_cs m0 m1) 5, ac', am, ah)) : wpY_encode post (fk, aw, ac, am, ah) (nI m0) (nI m1) := by
  unfold wpY_encode
  dsimp only
  exact hm _ (br_f (by decide) (ycw h0 h1 (fun ac' hc => ⟨6, yen_loop hc (k ac') 5 0 rfl⟩)))
end
section
/-! ===== the reference's searches and counts ===== -/
theorem rc_a31 {n : Nat} (hn : n < 1024) : nI n &&& 31 = nI (n % 32) := pk_andN (by omega) 5 (by decide)
theorem rc_s5 {n : Nat} (hn : n < 1024) : nI n >>> ((5 : Int32) &&& 31) = nI (n / 32) := pk_shrN (by omega) ((5 : Int32) &&& 31) 5 (by decide)
theorem rc_cn_le {K : Nat} : rc_cn K ≤ 1024 := by
  unfold rc_cn
  split <;> omega
theorem yn_k {post : Int32 → SY → Prop} {x1 x2 : Int32} {n K : Nat} {aw ac am ah : Nat → Int32} (hK : K = 1 ∨ K = 2) (h : wY_nearMessage_26 post (wY_nearMessage_9 post x1 n) x1 x2 (nI (rc_cn K)) x2 (nI K) aw ac am ah) : wY_nearMessage_9 post x1 (n + 1) x2 (nI K) aw ac am ah := by
  rcases hK with rfl | rfl
  · exact br_f (by decide) h
  · exact br_t (by decide) h
theorem yn_step {post : Int32 → SY → Prop} {J9 : Int32 → Int32 → (Nat → Int32) → (Nat → Int32) → (Nat → Int32) → (Nat → Int32) → Prop} {fk : Int32} {aw ac am ah : Nat → Int32} {w : Nat → Nat} {c lim i : Nat} (hc : c ≤ 1024) (hl : lim ≤ 5) (hw : ∀ j, j < 5 → w j < 32 ∧ aw j = nI (w j)) (hi : i < c) (k1 : rc_Dn w i ≤ lim → ∀ ac' am', post (nI i) (fk, aw, ac', am', ah)) (k2 : lim < rc_Dn w i → ∀ ac' am', J9 (nI (i + 1)) fk aw ac' am' ah) : wY_nearMessage_26 post J9 (nI lim) (nI i) (nI c) (nI i) fk aw ac am ah := by
  unfold wY_nearMessage_26
  refine br_f (nI_ge (b := c) (by omega) (by omega)) ?_
  rw [rc_a31 (show i < 1024 by omega), rc_s5 (show i < 1024 by omega)]
  have h5 := rc_D_le w (i % 32) (i / 32)
  have eD : rc_Dn w i = rc_D w (i % 32) (i / 32) := rfl
  refine yd hl (by omega) (by omega) hw (fun ac' am' q hq => ?_)
  refine pk_lt lim q (fun z => nm_r (nI_1 i) (k2 (by omega) ac' am')) (fun z => k1 (by omega) ac' am')
theorem yn_some {post : Int32 → SY → Prop} {aw ah : Nat → Int32} {w : Nat → Nat} {K lim m : Nat} (hK : K = 1 ∨ K = 2) (hl : lim ≤ 5) (hw : ∀ j, j < 5 → w j < 32 ∧ aw j = nI (w j)) (hm : m < rc_cn K) (hD : rc_Dn w m ≤ lim) (hmin : ∀ m', m' < m → lim < rc_Dn w m') (k : ∀ ac' am', post (nI m) (nI K, aw, ac', am', ah)) : ∀ d i (ac am : Nat → Int32), i + d = m → wY_nearMessage_9 post (nI lim) (d + 1) (nI i) (nI K) aw ac am ah := by
  intro d
  induction d with
  | zero =>
    intro i ac am hi
    have : i = m := by omega
    subst this
    exact yn_k hK (yn_step rc_cn_le hl hw hm (fun _ => k) (fun z => by omega))
  | succ d ih =>
    intro i ac am hi
    exact yn_k hK (yn_step rc_cn_le hl hw (by omega) (fun z => absurd z (Nat.not_le.mpr (hmin i (by omega)))) (fun _ ac' am' => ih (i + 1) ac' am' (by omega)))
theorem yn_none {post : Int32 → SY → Prop} {aw ah : Nat → Int32} {w : Nat → Nat} {K lim : Nat} (hK : K = 1 ∨ K = 2) (hl : lim ≤ 5) (hw : ∀ j, j < 5 → w j < 32 ∧ aw j = nI (w j)) (hmin : ∀ m', m' < rc_cn K → lim < rc_Dn w m') (k : ∀ ac' am', post (-4) (nI K, aw, ac', am', ah)) : ∀ d i (ac am : Nat → Int32), i + d = rc_cn K → wY_nearMessage_9 post (nI lim) (d + 1) (nI i) (nI K) aw ac am ah := by
  intro d
  induction d with
  | zero =>
    intro i ac am hi
    refine yn_k hK ?_
    unfold wY_nearMessage_26
    have := rc_cn_le (K := K)
    exact br_t (nI_le (by omega) (by omega)) (k ac am)
  | succ d ih =>
    intro i ac am hi
    exact yn_k hK (yn_step rc_cn_le hl hw (by omega) (fun z => absurd z (Nat.not_le.mpr (hmin i (by omega)))) (fun _ ac' am' => ih (i + 1) ac' am' (by omega)))
theorem rc_3k {K : Nat} (hK : K = 1 ∨ K = 2) : (3 : Int32) - nI K = nI (3 - K) := by
  rcases hK with rfl | rfl <;> decide
theorem ynS {post : Int32 → SY → Prop} {aw ac am ah : Nat → Int32} {w : Nat → Nat} {K m : Nat} (hK : K = 1 ∨ K = 2) (hw : ∀ j, j < 5 → w j < 32 ∧ aw j = nI (w j)) (hm : m < rc_cn K) (hD : rc_Dn w m ≤ 3 - K) (hmin : ∀ m', m' < m → 3 - K < rc_Dn w m') (k : ∀ ac' am', post (nI m) (nI K, aw, ac', am', ah)) : wpY_nearMessage post (nI K, aw, ac, am, ah) := by
  unfold wpY_nearMessage
  dsimp only
  exact nm_r (rc_3k hK) ⟨m + 1, yn_some hK (by omega) hw hm hD hmin k m 0 ac am (by omega)⟩
theorem ynN {post : Int32 → SY → Prop} {aw ac am ah : Nat → Int32} {w : Nat → Nat} {K : Nat} (hK : K = 1 ∨ K = 2) (hw : ∀ j, j < 5 → w j < 32 ∧ aw j = nI (w j)) (hmin : ∀ m', m' < rc_cn K → 3 - K < rc_Dn w m') (k : ∀ ac' am', post (-4) (nI K, aw, ac', am', ah)) : wpY_nearMessage post (nI K, aw, ac, am, ah) := by
  unfold wpY_nearMessage
  dsimp only
  exact nm_r (rc_3k hK) ⟨rc_cn K + 1, yn_none hK (by omega) hw hmin k (rc_cn K) 0 ac am (by omega)⟩
theorem ypc_loop {post : Int32 → SY → Prop} {fk : Int32} {aw ac am ah : Nat → Int32} {w c : Nat → Nat} (hw : ∀ j, j < 5 → w j < 32 ∧ aw j = nI (w j)) (hc : ∀ j, j < 5 → c j < 32 ∧ ac j = nI (c j)) (k : post (nI (rc_pl w c 5)) (fk, aw, ac, am, ah)) : ∀ d i, i + d = 5 → wY_placesChanged_11 post fk aw ac am ah (d + 1) (nI (rc_pl w c i)) (nI i) := by
  intro d
  induction d with
  | zero =>
    intro i hi
    have : i = 5 := by omega
    subst this
    exact br_t (by decide) k
  | succ d ih =>
    intro i hi
    obtain ⟨hw1, hw2⟩ := hw i (by omega)
    obtain ⟨hc1, hc2⟩ := hc i (by omega)
    refine br_f (nI_ge (b := 5) (by omega) (by decide)) ⟨vp_in_nI (by omega) (by decide), vp_in_nI (by omega) (by decide), ?_⟩
    rw [nI_clamp (show i < 2 ^ 31 by omega), hw2, hc2]
    have e2 : ¬ w i = c i → nI (rc_pl w c i) ||| ((1 : Int32) <<< (nI i &&& 31)) = nI (rc_pl w c (i + 1)) := by
      intro z
      have e : rc_pl w c (i + 1) = rc_pl w c i ||| 2 ^ i := if_neg z
      rw [e, rc_1sh i (by omega), nx_or]
    refine pk_eq (c i) (w i) (fun z => nm_r (nI_1 i) ?_) (fun z => nm_r (e2 (fun y => z y.symm)) (nm_r (nI_1 i) (ih (i + 1) (by omega))))
    have e : rc_pl w c (i + 1) = rc_pl w c i := if_pos z.symm
    rw [← e]
    exact ih (i + 1) (by omega)
theorem ypc {post : Int32 → SY → Prop} {fk : Int32} {aw ac am ah : Nat → Int32} {w : Nat → Nat} {m0 m1 : Nat} (h0 : m0 < 32) (h1 : m1 < 32) (hw : ∀ j, j < 5 → w j < 32 ∧ aw j = nI (w j)) (k : ∀ ac', post (nI (rc_pl w (rc_cs m0 m1) 5)) (fk, aw, ac', am, ah)) : wpY_placesChanged post (fk, aw, ac, am, ah) (nI m0) (nI m1) := by
  unfold wpY_placesChanged
  dsimp only
  exact ycw h0 h1 (fun ac' hc => ⟨6, ypc_loop hw hc (k ac') 5 0 rfl⟩)
/-! coverings -/
theorem rc_nb0 : vp_nar .boolean 0 = 0 := by decide +kernel
theorem rc_nb1 : vp_nar .boolean 1 = 1 := by decide +kernel
def rc_cv (ah : Nat → Int32) (S : Nat) : Nat → Bool
  | 0 => false
  | p + 1 => rc_cv ah S p || (decide (¬ ah p = 0) && decide ((nI p &&& (nI S ^^^ (-1))) = 0))
theorem rc_cv_i (ah : Nat → Int32) (S : Nat) : ∀ n, (rc_cv ah S n = true ↔ ∃ p, p < n ∧ ¬ ah p = 0 ∧ rc_sb p S) := by
  intro n
  induction n with
  | zero => exact ⟨fun z => (nomatch z), fun ⟨p, a, _⟩ => absurd a (Nat.not_lt_zero p)⟩
  | succ n ih =>
    unfold rc_cv
    rw [Bool.or_eq_true, ih, Bool.and_eq_true, decide_eq_true_eq, decide_eq_true_eq]
    constructor
    · rintro (⟨p, a, b⟩ | ⟨a, b⟩)
      · exact ⟨p, by omega, b⟩
      · exact ⟨n, by omega, a, b⟩
    · rintro ⟨p, a, b, c⟩
      rcases Nat.lt_or_ge p n with y | y
      · exact Or.inl ⟨p, y, b, c⟩
      · have : p = n := by omega
        subst this
        exact Or.inr ⟨b, c⟩
def rc_bI (b : Bool) : Int32 := if b = true then 1 else 0
theorem yc_in {post : Int32 → SY → Prop} {J72 : Int32 → Int32 → Prop} {fk : Int32} {aw ac am ah : Nat → Int32} {S : Nat} {x1 : Int32} (k : J72 (if rc_cv ah S 32 = true then x1 + 1 else x1) (nI (S + 1))) : ∀ d p, p + d = 32 → wY_coverings_83 post J72 x1 (nI S) fk aw ac am ah (d + 1) (rc_bI (rc_cv ah S p)) (nI p) := by
  have n10 : ¬ (1 : Int32) = 0 := by decide
  intro d
  induction d with
  | zero =>
    intro p hp
    have : p = 32 := by omega
    subst this
    refine br_t (by decide) ?_
    by_cases z : rc_cv ah S 32 = true
    · rw [if_pos z] at k
      have e : rc_bI (rc_cv ah S 32) = 1 := if_pos z
      rw [e]
      exact br_f n10 (nm_e (nm_r (nI_1 S) k))
    · rw [if_neg z] at k
      have e : rc_bI (rc_cv ah S 32) = 0 := if_neg z
      rw [e]
      exact br_t rfl (nm_r (nI_1 S) k)
  | succ d ih =>
    intro p hp
    have h := ih (p + 1) (by omega)
    refine br_f (nI_ge (b := 32) (by omega) (by decide)) ?_
    have es : rc_cv ah S (p + 1) = (rc_cv ah S p || (decide (¬ ah p = 0) && decide ((nI p &&& (nI S ^^^ (-1))) = 0))) := rfl
    by_cases z : rc_cv ah S p = true
    · have e : rc_bI (rc_cv ah S p) = 1 := if_pos z
      have e' : rc_bI (rc_cv ah S (p + 1)) = 1 := by rw [es, z, Bool.true_or]; rfl
      rw [e'] at h
      rw [e]
      exact br_f n10 (nm_r (nI_1 p) h)
    · have e : rc_bI (rc_cv ah S p) = 0 := if_neg z
      rw [es, rc_ff z, Bool.false_or] at h
      rw [e]
      refine br_t rfl ⟨vp_in_nI (by omega) (by decide), ?_⟩
      rw [nI_clamp (show p < 2 ^ 31 by omega)]
      refine br_c (fun y => ?_) (fun y => br_c (fun t => ?_) (fun t => ?_))
      · rw [decide_eq_false (fun q => q y), Bool.false_and] at h
        exact nm_r (nI_1 p) h
      · rw [decide_eq_true y, decide_eq_true t] at h
        exact nm_r (nI_1 p) h
      · rw [decide_eq_false t, Bool.and_false] at h
        exact nm_r (nI_1 p) h
theorem yc_out {post : Int32 → SY → Prop} {fk : Int32} {aw ac am ah : Nat → Int32} (k : post (nI (rc_ct (fun S => rc_cv ah S 32) 32)) (fk, aw, ac, am, ah)) : ∀ d i, i + d = 32 → wY_coverings_72 post fk aw ac am ah (d + 1) (nI (rc_ct (fun S => rc_cv ah S 32) i)) (nI i) := by
  intro d
  induction d with
  | zero =>
    intro i hi
    have : i = 32 := by omega
    subst this
    exact br_t (by decide) k
  | succ d ih =>
    intro i hi
    have h := ih (i + 1) (by omega)
    refine br_f (nI_ge (b := 32) (by omega) (by decide)) ⟨33, yc_in ?_ 32 0 rfl⟩
    have e : nI (rc_ct (fun S => rc_cv ah S 32) (i + 1)) = (if rc_cv ah i 32 = true then nI (rc_ct (fun S => rc_cv ah S 32) i) + 1 else nI (rc_ct (fun S => rc_cv ah S 32) i)) := by
      show nI (if rc_cv ah i 32 = true then rc_ct (fun S => rc_cv ah S 32) i + 1 else rc_ct (fun S => rc_cv ah S 32) i) = _
      by_cases z : rc_cv ah i 32 = true
      · rw [if_pos z, if_pos z, nI_1]
      · rw [if_neg z, if_neg z]
    rw [e] at h
    exact h
theorem yc_k {post : Int32 → SY → Prop} {x1 : Int32} {n K : Nat} {aw ac am ah : Nat → Int32} (hK : K = 1 ∨ K = 2) (h : wY_coverings_40 post (wY_coverings_23 post n) x1 (nI (rc_cn K)) x1 (nI K) aw ac am ah) : wY_coverings_23 post (n + 1) x1 (nI K) aw ac am ah := by
  rcases hK with rfl | rfl
  · exact br_f (by decide) h
  · exact br_t (by decide) h
theorem yc_mark {post : Int32 → SY → Prop} {aw am : Nat → Int32} {w : Nat → Nat} {K : Nat} (hK : K = 1 ∨ K = 2) (hw : ∀ j, j < 5 → w j < 32 ∧ aw j = nI (w j)) (k : ∀ (P : Nat → Bool) (ac' ah' : Nat → Int32), (∀ S, S < 32 → (P S = true ↔ ∃ m, m < rc_cn K ∧ rc_sb (rc_pn w m) S)) → post (nI (rc_ct P 32)) (nI K, aw, ac', am, ah')) : ∀ d i (ac ah : Nat → Int32), i + d = rc_cn K → (∀ p, p < 32 → (¬ ah p = 0 ↔ ∃ m, m < i ∧ rc_pn w m = p)) → wY_coverings_23 post (d + 1) (nI i) (nI K) aw ac am ah := by
  have hc := rc_cn_le (K := K)
  intro d
  induction d with
  | zero =>
    intro i ac ah hi h
    have : i = rc_cn K := by omega
    subst this
    refine yc_k hK ?_
    unfold wY_coverings_40
    refine br_t (nI_le (Nat.le_refl _) (by omega)) ⟨33, yc_out (k _ ac ah (fun S hS => ?_)) 32 0 rfl⟩
    rw [rc_cv_i]
    constructor
    · rintro ⟨p, a, b, c⟩
      obtain ⟨m, hm, e⟩ := (h p a).mp b
      exact ⟨m, hm, by rw [e]; exact c⟩
    · rintro ⟨m, hm, c⟩
      exact ⟨rc_pn w m, rc_pn_lt w m, (h _ (rc_pn_lt w m)).mpr ⟨m, hm, rfl⟩, c⟩
  | succ d ih =>
    intro i ac ah hi h
    refine yc_k hK ?_
    unfold wY_coverings_40
    refine br_f (nI_ge (b := rc_cn K) (by omega) (by omega)) ?_
    rw [rc_a31 (show i < 1024 by omega), rc_s5 (show i < 1024 by omega)]
    have hp := rc_pn_lt w i
    refine ypc (by omega) (by omega) hw (fun ac' => ⟨vp_in_nI hp (by decide), ?_⟩)
    rw [nI_clamp (show rc_pl w (rc_cs (i % 32) (i / 32)) 5 < 2 ^ 31 from Nat.lt_trans hp (by decide)), rc_nb1]
    refine nm_e (nm_r (nI_1 i) (ih (i + 1) ac' _ (by omega) (fun p hp' => ?_)))
    by_cases e : p = rc_pl w (rc_cs (i % 32) (i / 32)) 5
    · subst e
      rw [pk_us]
      exact ⟨fun _ => ⟨i, by omega, rfl⟩, fun _ => by decide⟩
    · rw [pk_un e, h p hp']
      constructor
      · rintro ⟨m, a, b⟩
        exact ⟨m, by omega, b⟩
      · rintro ⟨m, a, b⟩
        rcases Nat.lt_or_ge m i with y | y
        · exact ⟨m, y, b⟩
        · have : m = i := by omega
          subst this
          exact absurd b.symm e
theorem yc_0 {post : Int32 → SY → Prop} {fk : Int32} {aw ac am : Nat → Int32} (k : ∀ ah : Nat → Int32, (∀ p, p < 32 → ah p = 0) → ∃ n, wY_coverings_23 post n 0 fk aw ac am ah) : ∀ d i (ah : Nat → Int32), i + d = 32 → (∀ p, p < i → ah p = 0) → wY_coverings_2 post fk (d + 1) (nI i) aw ac am ah := by
  intro d
  induction d with
  | zero =>
    intro i ah hi h
    have : i = 32 := by omega
    subst this
    exact br_t (by decide) (k ah h)
  | succ d ih =>
    intro i ah hi h
    refine br_f (nI_ge (b := 32) (by omega) (by decide)) ⟨vp_in_nI (by omega) (by decide), ?_⟩
    rw [nI_clamp (show i < 2 ^ 31 by omega), rc_nb0]
    refine nm_e (nm_r (nI_1 i) (ih (i + 1) _ (by omega) (fun p hp => ?_)))
    by_cases e : p = i
    · subst e; exact pk_us
    · rw [pk_un e]; exact h p (by omega)
theorem yco {post : Int32 → SY → Prop} {aw ac am ah : Nat → Int32} {w : Nat → Nat} {K : Nat} (hK : K = 1 ∨ K = 2) (hw : ∀ j, j < 5 → w j < 32 ∧ aw j = nI (w j)) (k : ∀ (P : Nat → Bool) (ac' ah' : Nat → Int32), (∀ S, S < 32 → (P S = true ↔ ∃ m, m < rc_cn K ∧ rc_sb (rc_pn w m) S)) → post (nI (rc_ct P 32)) (nI K, aw, ac', am, ah')) : wpY_coverings post (nI K, aw, ac, am, ah) := ⟨33, yc_0 (fun ah' h0 => ⟨rc_cn K + 1, yc_mark hK hw k (rc_cn K) 0 ac ah' (by omega) (fun p hp => ⟨fun z => absurd (h0 p hp) z, fun ⟨m, a, _⟩ => absurd a (Nat.not_lt_zero m)⟩)⟩) 32 0 ah rfl (fun p hp => absurd hp (Nat.not_lt_zero p))⟩
/-! census -/
theorem ys_k {post : Int32 → SY → Prop} {x1 x2 x3 : Int32} {n K : Nat} {aw ac am ah : Nat → Int32} (hK : K = 1 ∨ K = 2) (h : wY_census_21 post (wY_census_4 post x1 n) x1 x2 x3 (nI (rc_cn K)) x3 (nI K) aw ac am ah) : wY_census_4 post x1 (n + 1) x2 x3 (nI K) aw ac am ah := by
  rcases hK with rfl | rfl
  · exact br_f (by decide) h
  · exact br_t (by decide) h
theorem ys_in {post : Int32 → SY → Prop} {J4 : Int32 → Int32 → Int32 → (Nat → Int32) → (Nat → Int32) → (Nat → Int32) → (Nat → Int32) → Prop} {x1 x2 fk : Int32} {aw ac ah : Nat → Int32} {i : Nat} {c : Nat → Nat} (hc : ∀ j, j < 5 → c j < 32 ∧ ac j = nI (c j)) (k : ∀ am', J4 (if nI (rc_er 5 c) = x1 then x2 + 1 else x2) (nI (i + 1)) fk aw ac am' ah) : ∀ d j (am : Nat → Int32), j + d = 5 → (∀ t, t < j → am t = nI (c t)) → wY_census_38 post J4 x1 x2 (nI i) fk (d + 1) (nI j) aw ac am ah := by
  intro d
  induction d with
  | zero =>
    intro j am hj h
    have : j = 5 := by omega
    subst this
    refine br_t (by decide) (yr5 (s := c) (fun t ht => ⟨(hc t ht).1, h t ht⟩) (br_c (fun z => ?_) (fun z => ?_)))
    · have k' := k am
      rw [if_pos z] at k'
      exact nm_e (nm_r (nI_1 i) k')
    · have k' := k am
      rw [if_neg z] at k'
      exact nm_r (nI_1 i) k'
  | succ d ih =>
    intro j am hj h
    refine br_f (nI_ge (b := 5) (by omega) (by decide)) ⟨vp_in_nI (by omega) (by decide), vp_in_nI (by omega) (by decide), ?_⟩
    rw [nI_clamp (show j < 2 ^ 31 by omega), (hc j (by omega)).2]
    refine nm_e (nm_r (nI_1 j) (ih (j + 1) _ (by omega) (fun t ht => ?_)))
    by_cases e : t = j
    · subst e; exact pk_us
    · rw [pk_un e]; exact h t (by omega)
theorem ys_loop {post : Int32 → SY → Prop} {aw ah : Nat → Int32} {K : Nat} {x : Int32} (hK : K = 1 ∨ K = 2) (k : ∀ ac' am', post (nI (rc_ct (rc_cp x) (rc_cn K))) (nI K, aw, ac', am', ah)) : ∀ d i (ac am : Nat → Int32), i + d = rc_cn K → wY_census_4 post x (d + 1) (nI (rc_ct (rc_cp x) i)) (nI i) (nI K) aw ac am ah := by
  have hc := rc_cn_le (K := K)
  intro d
  induction d with
  | zero =>
    intro i ac am hi
    have : i = rc_cn K := by omega
    subst this
    refine ys_k hK ?_
    unfold wY_census_21
    exact br_t (nI_le (Nat.le_refl _) (by omega)) (k ac am)
  | succ d ih =>
    intro i ac am hi
    refine ys_k hK ?_
    unfold wY_census_21
    refine br_f (nI_ge (b := rc_cn K) (by omega) (by omega)) ?_
    rw [rc_a31 (show i < 1024 by omega), rc_s5 (show i < 1024 by omega)]
    refine ycw (by omega) (by omega) (fun ac' hc' => ⟨6, ys_in hc' (fun am' => ?_) 5 0 am rfl (fun t ht => absurd ht (Nat.not_lt_zero t))⟩)
    have h := ih (i + 1) ac' am' (by omega)
    have e : nI (rc_ct (rc_cp x) (i + 1)) = (if nI (rc_er 5 (rc_cs (i % 32) (i / 32))) = x then nI (rc_ct (rc_cp x) i) + 1 else nI (rc_ct (rc_cp x) i)) := by
      by_cases z : nI (rc_er 5 (rc_cs (i % 32) (i / 32))) = x
      · have e1 : rc_ct (rc_cp x) (i + 1) = rc_ct (rc_cp x) i + 1 := if_pos (decide_eq_true z)
        rw [if_pos z, e1, nI_1]
      · have e1 : rc_ct (rc_cp x) (i + 1) = rc_ct (rc_cp x) i := if_neg (fun y => z (of_decide_eq_true y))
        rw [if_neg z, e1]
    rw [e] at h
    exact h
theorem yce {post : Int32 → SY → Prop} {aw ac am ah : Nat → Int32} {K : Nat} {x : Int32} (hK : K = 1 ∨ K = 2) (k : ∀ ac' am', post (nI (rc_ct (rc_cp x) (rc_cn K))) (nI K, aw, ac', am', ah)) : wpY_census post (nI K, aw, ac, am, ah) x := ⟨rc_cn K + 1, ys_loop hK k (rc_cn K) 0 ac am (by omega)⟩
/-! over, disturb -/
theorem yov_loop {post : Int32 → Prop} {fk : Int32} {aw ac am ah : Nat → Int32} {a b : Nat} (ha : a < 32) (hb : b < 32) (k : post (nI (rc_ov a b 32))) : ∀ d i, i + d = 32 → wY_over_27 post (nI a) (nI b) fk aw ac am ah (d + 1) (nI (rc_ov a b i)) (nI i) := by
  intro d
  induction d with
  | zero =>
    intro i hi
    have : i = 32 := by omega
    subst this
    exact br_t (by decide) k
  | succ d ih =>
    intro i hi
    have hp := rc_pr_lt i hb
    refine br_f (nI_ge (b := 32) (by omega) (by decide)) (yp hb (by omega) (pk_eq (rc_pr b i) a (fun z => ?_) (fun z => ?_)))
    · have e : rc_ov a b (i + 1) = i := if_pos z
      have h := ih (i + 1) (by omega)
      rw [e] at h
      exact nm_r (nI_1 i) h
    · have e : rc_ov a b (i + 1) = rc_ov a b i := if_neg z
      have h := ih (i + 1) (by omega)
      rw [e] at h
      exact nm_r (nI_1 i) h
theorem ydi_loop {post : Int32 → SY → Prop} {fk : Int32} {aw ac am ah : Nat → Int32} {a s : Nat} (hs : s < 32) (k : wpY_rank post (fk, rc_dw aw a s 5, ac, am, ah)) : ∀ d i, i + d = 5 → wY_disturb_20 post (nI a) (nI s) fk (d + 1) (nI i) (rc_dw aw a s i) ac am ah := by
  intro d
  induction d with
  | zero =>
    intro i hi
    have : i = 5 := by omega
    subst this
    exact br_t (by decide) k
  | succ d ih =>
    intro i hi
    refine br_f (nI_ge (b := 5) (by omega) (by decide)) (ek_if (rc_bitI (show s < 2 ^ 31 by omega) (show i < 32 by omega)) (fun z => ⟨vp_in_nI (by omega) (by decide), vp_in_nI (by omega) (by decide), ?_⟩) (fun z => ?_))
    · have e : rc_dw aw a s (i + 1) = upd (rc_dw aw a s i) i (rc_dw aw a s i i ^^^ nI a) := if_pos z
      have h := ih (i + 1) (by omega)
      rw [e] at h
      rw [nI_clamp (show i < 2 ^ 31 by omega)]
      exact nm_e (nm_r (nI_1 i) h)
    · have e : rc_dw aw a s (i + 1) = rc_dw aw a s i := if_neg z
      have h := ih (i + 1) (by omega)
      rw [e] at h
      exact nm_r (nI_1 i) h
end
section
/-! ===== the relation ===== -/
def i_Rel (k : Nat) (u : SX) (v : SY) : Prop := ∃ (K : Nat) (aw ar ac am ah : Nat → Int32) (w : Nat → Nat), (K = 1 ∨ K = 2) ∧ (∀ j, j < 5 → w j < 32 ∧ aw j = nI (w j)) ∧ u = (nI K, nI (rc_cn K), nI (3 - K), aw, ar) ∧ v = (nI K, aw, ac, am, ah)
theorem rc_rel {k K : Nat} {aw ar ac am ah : Nat → Int32} {w : Nat → Nat} (hK : K = 1 ∨ K = 2) (hw : ∀ j, j < 5 → w j < 32 ∧ aw j = nI (w j)) : i_Rel k (nI K, nI (rc_cn K), nI (3 - K), aw, ar) (nI K, aw, ac, am, ah) := ⟨K, aw, ar, ac, am, ah, w, hK, hw, rfl, rfl⟩
theorem i_up {k : Nat} {u : SX} {v : SY} (h : i_Rel k u v) : i_Rel (k + 3) u v := h
theorem rc_n10 : ¬ (1 : Int32) = 0 := by decide
theorem rc_bad (z : Int32) {n : Nat} (hn : n < 2 ^ 31) : (z < 0 ∨ nI n ≤ z) ∨ ∃ j, j < n ∧ z = nI j := by
  rcases pk_ix z (n := n) hn with h | h | h
  · exact Or.inl (Or.inl h)
  · exact Or.inl (Or.inr h)
  · exact Or.inr h
theorem rc_m4 {m : Nat} (hm : m < 1024) : ¬ nI m = -4 := fun e => by
  have h := nI_pos (n := m) (by omega)
  rw [e] at h
  exact h (by decide)
theorem i_vc0 (k0 : Int32) : wpX_init (fun u => wpY_init (fun v => i_Rel 1 u v) k0) k0 := by
  have z5 : ∀ j, j < 5 → (fun _ => 0 : Nat → Nat) j < 32 ∧ (fun _ => (0 : Int32)) j = nI ((fun _ => 0 : Nat → Nat) j) := fun j _ => ⟨(by decide : 0 < 32), rfl⟩
  have t0 : (1 : Int32).toInt = 1 := by decide
  have t2 : (2 : Int32).toInt = 2 := by decide
  by_cases h : 2 ≤ k0
  · have r2 : i_Rel 1 (2, 1024, 1, (fun _ => 0), (fun _ => 0)) (2, (fun _ => 0), (fun _ => 0), (fun _ => 0), (fun _ => 0)) := rc_rel (K := 2) (Or.inr rfl) z5
    have h1 : 1 ≤ k0 := by rw [Int32.le_iff_toInt_le] at h ⊢; omega
    refine br_t h (br_f (by decide) (br_f (by decide) ?_))
    refine br_t h1 (br_c (fun y => ?_) (fun y => r2))
    have e : k0 = 2 := by
      apply Int32.toInt_inj.mp
      rw [Int32.le_iff_toInt_le] at h y
      omega
    rw [e]
    exact r2
  · have r1 : i_Rel 1 (1, 32, 2, (fun _ => 0), (fun _ => 0)) (1, (fun _ => 0), (fun _ => 0), (fun _ => 0), (fun _ => 0)) := rc_rel (K := 1) (Or.inl rfl) z5
    refine br_f h (br_t (by decide) (br_t (by decide) ?_))
    refine br_c (fun y => ?_) (fun y => r1)
    have e : k0 = 1 := by
      apply Int32.toInt_inj.mp
      rw [Int32.le_iff_toInt_le] at h y
      omega
    refine br_t (by rw [e]; decide) ?_
    rw [e]
    exact r1
theorem i_vc_size {k : Nat} {u : SX} {v : SY} (I : i_Rel k u v) (hk : k + 3 ≤ 1537) : wpX_size (fun r => wpY_size (fun r' => r' = r ∧ i_Rel (k + 3) u v) v) u := by
  obtain ⟨K, aw, ar, ac, am, ah, w, hK, hw, rfl, rfl⟩ := I
  exact And.intro rfl (rc_rel hK hw)
theorem i_vc_times {k : Nat} {u : SX} {v : SY} (I : i_Rel k u v) (hk : k + 3 ≤ 1537) (v1 : Int32) (v2 : Int32) : wpX_times (fun r => wpY_times (fun r' => r' = r ∧ i_Rel (k + 3) u v) v v1 v2) u v1 v2 := by
  obtain ⟨K, aw, ar, ac, am, ah, w, hK, hw, rfl, rfl⟩ := I
  have R : i_Rel (k + 3) (nI K, nI (rc_cn K), nI (3 - K), aw, ar) (nI K, aw, ac, am, ah) := rc_rel hK hw
  unfold wpX_times wpY_times
  dsimp only
  rcases rc_bad v1 (n := 32) (by decide) with hx | ⟨a, ha, rfl⟩
  · refine xe_n hx (br_t rfl ?_)
    exact ye_n hx (br_t rfl (And.intro rfl R))
  rcases rc_bad v2 (n := 32) (by decide) with hy | ⟨b, hb, rfl⟩
  · refine xe_y ha (br_f rc_n10 ?_)
    refine xe_n hy (br_t rfl ?_)
    refine ye_y ha (br_f rc_n10 ?_)
    exact ye_n hy (br_t rfl (And.intro rfl R))
  refine xe_y ha (br_f rc_n10 ?_)
  refine xe_y hb (br_f rc_n10 ?_)
  refine xp ha hb ?_
  refine ye_y ha (br_f rc_n10 ?_)
  refine ye_y hb (br_f rc_n10 ?_)
  exact yp ha hb (And.intro rfl R)
theorem i_vc_over {k : Nat} {u : SX} {v : SY} (I : i_Rel k u v) (hk : k + 3 ≤ 1537) (v1 : Int32) (v2 : Int32) : wpX_over (fun r => wpY_over (fun r' => r' = r ∧ i_Rel (k + 3) u v) v v1 v2) u v1 v2 := by
  obtain ⟨K, aw, ar, ac, am, ah, w, hK, hw, rfl, rfl⟩ := I
  have R : i_Rel (k + 3) (nI K, nI (rc_cn K), nI (3 - K), aw, ar) (nI K, aw, ac, am, ah) := rc_rel hK hw
  unfold wpX_over wpY_over
  dsimp only
  rcases rc_bad v1 (n := 32) (by decide) with hx | ⟨a, ha, rfl⟩
  · refine xe_n hx (br_t rfl ?_)
    exact ye_n hx (br_t rfl (And.intro rfl R))
  rcases rc_bad v2 (n := 32) (by decide) with hy | ⟨b, hb, rfl⟩
  · refine xe_y ha (br_f rc_n10 ?_)
    refine xe_n hy (br_t rfl ?_)
    refine ye_y ha (br_f rc_n10 ?_)
    exact ye_n hy (br_t rfl (And.intro rfl R))
  refine xe_y ha (br_f rc_n10 ?_)
  refine xe_y hb (br_f rc_n10 ?_)
  by_cases z : nI b = 0
  · refine br_t z ?_
    refine ye_y ha (br_f rc_n10 ?_)
    refine ye_y hb (br_f rc_n10 ?_)
    exact br_t z (And.intro rfl R)
  · refine br_f z ⟨33, xov_loop ha hb ?_ 32 0 rfl⟩
    refine ye_y ha (br_f rc_n10 ?_)
    refine ye_y hb (br_f rc_n10 ?_)
    exact br_f z ⟨33, yov_loop ha hb (And.intro rfl R) 32 0 rfl⟩
theorem i_vc_encode {k : Nat} {u : SX} {v : SY} (I : i_Rel k u v) (hk : k + 3 ≤ 1537) (v1 : Int32) (v2 : Int32) : wpX_encode (fun r u' => wpY_encode (fun r' v' => r' = r ∧ i_Rel (k + 3) u' v') v v1 v2) u v1 v2 := by
  obtain ⟨K, aw, ar, ac, am, ah, w, hK, hw, rfl, rfl⟩ := I
  unfold wpX_encode
  dsimp only
  rcases rc_msg (fc := nI (rc_cn K)) (fr := nI (3 - K)) (aw := aw) (ar := ar) (aw' := aw) (ac := ac) (am := am) (ah := ah) hK v1 v2 with ⟨m0, m1, h0, h1, rfl, rfl, hX, hY⟩ | ⟨hX, hY⟩
  · refine hX _ (br_f rc_n10 ?_)
    refine xw h0 h1 ?_
    exact yen h0 h1 hY (fun ac' => And.intro rfl (rc_rel hK (w := rc_cs m0 m1) (fun j hj => ⟨rc_cs_lt j h0 h1, rc_uw_lt aw (rc_cs m0 m1) 5 j hj⟩)))
  · refine hX _ (br_t rfl ?_)
    unfold wpY_encode
    dsimp only
    exact hY _ (br_t rfl (And.intro rfl (rc_rel hK hw)))
theorem i_vc_put {k : Nat} {u : SX} {v : SY} (I : i_Rel k u v) (hk : k + 3 ≤ 1537) (v1 : Int32) (v2 : Int32) : wpX_put (fun r u' => wpY_put (fun r' v' => r' = r ∧ i_Rel (k + 3) u' v') v v1 v2) u v1 v2 := by
  obtain ⟨K, aw, ar, ac, am, ah, w, hK, hw, rfl, rfl⟩ := I
  have R : i_Rel (k + 3) (nI K, nI (rc_cn K), nI (3 - K), aw, ar) (nI K, aw, ac, am, ah) := rc_rel hK hw
  unfold wpX_put wpY_put
  dsimp only
  rcases rc_bad v1 (n := 5) (by decide) with hx | ⟨i, hi, rfl⟩
  · refine xl_n hx (br_t rfl ?_)
    rcases hx with hx | hx
    · exact br_t hx (And.intro rfl R)
    · exact br_f (rc_ng (by decide) hx) (br_t (rc_gt (n := 4) (by decide) hx) (And.intro rfl R))
  have hp : ¬ nI i < 0 := nI_pos (by omega)
  have h4 : ¬ 4 < nI i := nI_nlt (a := 4) (by omega) (by decide)
  rcases rc_bad v2 (n := 32) (by decide) with hy | ⟨c, hc, rfl⟩
  · refine xl_y hi (br_f rc_n10 ?_)
    refine xe_n hy (br_t rfl ?_)
    refine br_f hp (br_f h4 ?_)
    exact ye_n hy (br_t rfl (And.intro rfl R))
  refine xl_y hi (br_f rc_n10 ?_)
  refine xe_y hc (br_f rc_n10 ⟨vp_in_nI hi (by decide), ?_⟩)
  refine nm_e ⟨vp_in_nI hi (by decide), nm_e ?_⟩
  refine br_f hp (br_f h4 ?_)
  refine ye_y hc (br_f rc_n10 ⟨vp_in_nI hi (by decide), ?_⟩)
  refine nm_e ⟨vp_in_nI hi (by decide), nm_e (And.intro rfl ?_)⟩
  rw [nI_clamp (show i < 2 ^ 31 by omega)]
  refine rc_rel hK (w := fun j => if j = i then c else w j) (fun j hj => ?_)
  by_cases e : j = i
  · subst e
    refine ⟨?_, ?_⟩
    · show (if j = j then c else w j) < 32
      rw [if_pos rfl]
      exact hc
    · show upd aw j (nI c) j = nI (if j = j then c else w j)
      rw [if_pos rfl, pk_us]
  · refine ⟨?_, ?_⟩
    · show (if j = i then c else w j) < 32
      rw [if_neg e]
      exact (hw j hj).1
    · show upd aw i (nI c) j = nI (if j = i then c else w j)
      rw [if_neg e, pk_un e]
      exact (hw j hj).2
theorem i_vc_symbol {k : Nat} {u : SX} {v : SY} (I : i_Rel k u v) (hk : k + 3 ≤ 1537) (v1 : Int32) : wpX_symbol (fun r => wpY_symbol (fun r' => r' = r ∧ i_Rel (k + 3) u v) v v1) u v1 := by
  obtain ⟨K, aw, ar, ac, am, ah, w, hK, hw, rfl, rfl⟩ := I
  have R : i_Rel (k + 3) (nI K, nI (rc_cn K), nI (3 - K), aw, ar) (nI K, aw, ac, am, ah) := rc_rel hK hw
  unfold wpX_symbol wpY_symbol
  dsimp only
  rcases rc_bad v1 (n := 5) (by decide) with hx | ⟨i, hi, rfl⟩
  · refine xl_n hx (br_t rfl ?_)
    rcases hx with hx | hx
    · exact br_t hx (And.intro rfl R)
    · exact br_f (rc_ng (by decide) hx) (br_f (Int32.not_le.mpr (rc_gt (n := 4) (by decide) hx)) (And.intro rfl R))
  refine xl_y hi (br_f rc_n10 ⟨vp_in_nI hi (by decide), ?_⟩)
  exact br_f (nI_pos (by omega)) (br_t (nI_le (b := 4) (by omega) (by decide)) ⟨vp_in_nI hi (by decide), And.intro rfl R⟩)
theorem i_vc_disturb {k : Nat} {u : SX} {v : SY} (I : i_Rel k u v) (hk : k + 3 ≤ 1537) (v1 : Int32) (v2 : Int32) : wpX_disturb (fun r u' => wpY_disturb (fun r' v' => r' = r ∧ i_Rel (k + 3) u' v') v v1 v2) u v1 v2 := by
  obtain ⟨K, aw, ar, ac, am, ah, w, hK, hw, rfl, rfl⟩ := I
  have R : i_Rel (k + 3) (nI K, nI (rc_cn K), nI (3 - K), aw, ar) (nI K, aw, ac, am, ah) := rc_rel hK hw
  unfold wpX_disturb wpY_disturb
  dsimp only
  rcases rc_bad v1 (n := 32) (by decide) with hx | ⟨a, ha, rfl⟩
  · refine xe_n hx (br_t rfl ?_)
    exact ye_n hx (br_t rfl (And.intro rfl R))
  rcases rc_bad v2 (n := 32) (by decide) with hy | ⟨s, hs, rfl⟩
  · refine xe_y ha (br_f rc_n10 ?_)
    refine xs_n hy (br_t rfl ?_)
    refine ye_y ha (br_f rc_n10 ?_)
    exact ye_n hy (br_t rfl (And.intro rfl R))
  have hw' : ∀ j, j < 5 → rc_dv w a s j < 32 ∧ rc_dw aw a s 5 j = nI (rc_dv w a s j) := fun j hj => ⟨rc_dv_lt ha (hw j hj).1, rc_dw_lt aw a s hw 5 j hj (by decide)⟩
  refine xe_y ha (br_f rc_n10 ?_)
  refine xs_y hs (br_f rc_n10 ⟨6, xdi_loop hs ?_ 5 0 rfl⟩)
  refine xwd (m0 := 0) (m1 := 0) (by decide) (by decide) hw' (fun r' => ?_)
  refine ye_y ha (br_f rc_n10 ?_)
  refine ye_y hs (br_f rc_n10 ⟨6, ydi_loop hs ?_ 5 0 rfl⟩)
  unfold wpY_rank
  dsimp only
  exact yd5 (m0 := 0) (m1 := 0) (by decide) (by decide) hw' (fun ac' am' => And.intro rfl (rc_rel hK hw'))
theorem i_vc_rank {k : Nat} {u : SX} {v : SY} (I : i_Rel k u v) (hk : k + 3 ≤ 1537) : wpX_rank (fun r u' => wpY_rank (fun r' v' => r' = r ∧ i_Rel (k + 3) u' v') v) u := by
  obtain ⟨K, aw, ar, ac, am, ah, w, hK, hw, rfl, rfl⟩ := I
  unfold wpX_rank wpY_rank
  dsimp only
  refine xwd (m0 := 0) (m1 := 0) (by decide) (by decide) hw (fun r' => ?_)
  exact yd5 (m0 := 0) (m1 := 0) (by decide) (by decide) hw (fun ac' am' => And.intro rfl (rc_rel hK hw))
theorem i_vc_distance {k : Nat} {u : SX} {v : SY} (I : i_Rel k u v) (hk : k + 3 ≤ 1537) (v1 : Int32) (v2 : Int32) : wpX_distance (fun r u' => wpY_distance (fun r' v' => r' = r ∧ i_Rel (k + 3) u' v') v v1 v2) u v1 v2 := by
  obtain ⟨K, aw, ar, ac, am, ah, w, hK, hw, rfl, rfl⟩ := I
  unfold wpX_distance wpY_distance
  dsimp only
  rcases rc_msg (fc := nI (rc_cn K)) (fr := nI (3 - K)) (aw := aw) (ar := ar) (aw' := aw) (ac := ac) (am := am) (ah := ah) hK v1 v2 with ⟨m0, m1, h0, h1, rfl, rfl, hX, hY⟩ | ⟨hX, hY⟩
  · refine hX _ (br_f rc_n10 ?_)
    refine xwd h0 h1 hw (fun r' => ?_)
    refine hY _ (br_f rc_n10 ?_)
    exact yd5 h0 h1 hw (fun ac' am' => And.intro rfl (rc_rel hK hw))
  · refine hX _ (br_t rfl ?_)
    exact hY _ (br_t rfl (And.intro rfl (rc_rel hK hw)))
theorem rc_cn_m {K m : Nat} (hm : m < rc_cn K) : m < 1024 := Nat.lt_of_lt_of_le hm rc_cn_le
theorem yerS {post : Int32 → SY → Prop} {aw ac am ah : Nat → Int32} {w : Nat → Nat} {K m : Nat} (hK : K = 1 ∨ K = 2) (hw : ∀ j, j < 5 → w j < 32 ∧ aw j = nI (w j)) (hm : m < rc_cn K) (hD : rc_Dn w m ≤ 3 - K) (hmin : ∀ m', m' < m → 3 - K < rc_Dn w m') (k : ∀ ac' am', post (nI (rc_Dn w m)) (nI K, aw, ac', am', ah)) : wpY_errors post (nI K, aw, ac, am, ah) := by
  have hm' := rc_cn_m hm
  unfold wpY_errors
  dsimp only
  refine ynS hK hw hm hD hmin (fun ac' am' => br_f (rc_m4 hm') ?_)
  rw [rc_a31 hm', rc_s5 hm']
  exact yd5 (by omega) (by omega) hw (fun ac'' am'' => k ac'' am'')
theorem yerN {post : Int32 → SY → Prop} {aw ac am ah : Nat → Int32} {w : Nat → Nat} {K : Nat} (hK : K = 1 ∨ K = 2) (hw : ∀ j, j < 5 → w j < 32 ∧ aw j = nI (w j)) (hmin : ∀ m', m' < rc_cn K → 3 - K < rc_Dn w m') (k : ∀ ac' am', post (-4) (nI K, aw, ac', am', ah)) : wpY_errors post (nI K, aw, ac, am, ah) := by
  unfold wpY_errors
  dsimp only
  exact ynN hK hw hmin (fun ac' am' => br_t rfl (k ac' am'))
theorem i_vc_errors {k : Nat} {u : SX} {v : SY} (I : i_Rel k u v) (hk : k + 3 ≤ 1537) : wpX_errors (fun r u' => wpY_errors (fun r' v' => r' = r ∧ i_Rel (k + 3) u' v') v) u := by
  obtain ⟨K, aw, ar, ac, am, ah, w, hK, hw, rfl, rfl⟩ := I
  unfold wpX_errors
  dsimp only
  rcases rc_dich (rc_Dn w) (3 - K) (rc_cn K) with ⟨m, hm, hD, hmin⟩ | hmin
  · have hm' := rc_cn_m hm
    refine xmS rc_cn_le (by omega) hw hm hD hmin (fun r' => br_f (rc_m4 hm') ?_)
    refine xfe hm' (xse hm' (xwd (by omega) (by omega) hw (fun r'' => ?_)))
    exact yerS hK hw hm hD hmin (fun ac' am' => And.intro rfl (rc_rel hK hw))
  · refine xmN rc_cn_le (by omega) hw hmin (fun r' => br_t rfl ?_)
    exact yerN hK hw hmin (fun ac' am' => And.intro rfl (rc_rel hK hw))
theorem i_vc_message {k : Nat} {u : SX} {v : SY} (I : i_Rel k u v) (hk : k + 3 ≤ 1537) (v1 : Int32) : wpX_message (fun r u' => wpY_message (fun r' v' => r' = r ∧ i_Rel (k + 3) u' v') v v1) u v1 := by
  obtain ⟨K, aw, ar, ac, am, ah, w, hK, hw, rfl, rfl⟩ := I
  have R : i_Rel (k + 3) (nI K, nI (rc_cn K), nI (3 - K), aw, ar) (nI K, aw, ac, am, ah) := rc_rel hK hw
  unfold wpX_message wpY_message
  dsimp only
  by_cases h0 : v1 < 0
  · exact br_t h0 (br_t h0 (And.intro rfl R))
  by_cases h1 : v1 < nI K
  · refine br_f h0 (br_t h1 ?_)
    rcases rc_dich (rc_Dn w) (3 - K) (rc_cn K) with ⟨m, hm, hD, hmin⟩ | hmin
    · have hm' := rc_cn_m hm
      refine xmS rc_cn_le (by omega) hw hm hD hmin (fun r' => br_f (rc_m4 hm') ?_)
      by_cases z : v1 = 0
      · refine br_t z (xfe hm' ?_)
        refine br_f h0 (br_t h1 ?_)
        refine ynS hK hw hm hD hmin (fun ac' am' => br_f (rc_m4 hm') (br_t z ?_))
        rw [rc_a31 hm']
        exact And.intro rfl (rc_rel hK hw)
      · refine br_f z (xse hm' ?_)
        refine br_f h0 (br_t h1 ?_)
        refine ynS hK hw hm hD hmin (fun ac' am' => br_f (rc_m4 hm') (br_f z ?_))
        rw [rc_s5 hm']
        exact And.intro rfl (rc_rel hK hw)
    · refine xmN rc_cn_le (by omega) hw hmin (fun r' => br_t rfl ?_)
      refine br_f h0 (br_t h1 ?_)
      exact ynN hK hw hmin (fun ac' am' => br_t rfl (And.intro rfl (rc_rel hK hw)))
  · exact br_f h0 (br_f h1 (br_f h0 (br_f h1 (And.intro rfl R))))
theorem rc_ymsg {K m : Nat} {aw ac am ah : Nat → Int32} (hK : K = 1 ∨ K = 2) (hm : m < rc_cn K) : ∀ post : Int32 → Prop, post 1 → wpY_isMessage post (nI K, aw, ac, am, ah) (nI (m % 32)) (nI (m / 32)) := by
  intro post k
  have hm' := rc_cn_m hm
  unfold wpY_isMessage
  dsimp only
  refine ye_y (by omega) (br_f rc_n10 ?_)
  refine ye_y (by omega) (br_f rc_n10 ?_)
  rcases hK with rfl | rfl
  · have e : m / 32 = 0 := by
      have : m < 32 := hm
      omega
    rw [e]
    exact br_f (by decide) (br_t rfl k)
  · exact br_t rfl k
theorem i_vc_correct {k : Nat} {u : SX} {v : SY} (I : i_Rel k u v) (hk : k + 3 ≤ 1537) : wpX_correct (fun r u' => wpY_correct (fun r' v' => r' = r ∧ i_Rel (k + 3) u' v') v) u := by
  obtain ⟨K, aw, ar, ac, am, ah, w, hK, hw, rfl, rfl⟩ := I
  unfold wpX_correct wpY_correct
  dsimp only
  rcases rc_dich (rc_Dn w) (3 - K) (rc_cn K) with ⟨m, hm, hD, hmin⟩ | hmin
  · have hm' := rc_cn_m hm
    have a0 : m % 32 < 32 := by omega
    have a1 : m / 32 < 32 := by omega
    refine xmS rc_cn_le (by omega) hw hm hD hmin (fun r' => br_f (rc_m4 hm') ?_)
    refine xfe hm' (xse hm' (xwd a0 a1 hw (fun r'' => ?_)))
    refine xw a0 a1 ?_
    refine ynS hK hw hm hD hmin (fun ac' am' => br_f (rc_m4 hm') ?_)
    rw [rc_a31 hm', rc_s5 hm']
    refine yd5 a0 a1 hw (fun ac'' am'' => ?_)
    exact yen a0 a1 (rc_ymsg hK hm) (fun ac3 => And.intro rfl (rc_rel hK (w := rc_cs (m % 32) (m / 32)) (fun j hj => ⟨rc_cs_lt j a0 a1, rc_uw_lt aw (rc_cs (m % 32) (m / 32)) 5 j hj⟩)))
  · refine xmN rc_cn_le (by omega) hw hmin (fun r' => br_t rfl ?_)
    exact ynN hK hw hmin (fun ac' am' => br_t rfl (And.intro rfl (rc_rel hK hw)))
theorem rc_uniq {w : Nat → Nat} {K m n : Nat} (hK : K = 1 ∨ K = 2) (hm : m < rc_cn K) (hn : n < rc_cn K) (h0 : rc_Dn w m = 0) (h : rc_Dn w n ≤ 3 - K) : rc_Dn w n = 0 := by
  have hm' := rc_cn_m hm
  have hn' := rc_cn_m hn
  have e : rc_Dn w n = rc_er 5 (rc_cs (m % 32 ^^^ n % 32) (m / 32 ^^^ n / 32)) := rc_D_uni (by omega) (by omega) (by omega) (by omega) h0
  rw [e] at h ⊢
  have x0 : m % 32 ^^^ n % 32 < 32 := rc_x32 (by omega) (by omega)
  have x1 : m / 32 ^^^ n / 32 < 32 := rc_x32 (by omega) (by omega)
  rcases hK with rfl | rfl
  · have e1 : m / 32 = 0 := by
      have : m < 32 := hm
      omega
    have e2 : n / 32 = 0 := by
      have : n < 32 := hn
      omega
    rw [e1, e2, Nat.xor_self] at h ⊢
    exact rc_min1 _ x0 h
  · exact rc_min2 _ x0 _ x1 h
theorem i_vc_clean {k : Nat} {u : SX} {v : SY} (I : i_Rel k u v) (hk : k + 3 ≤ 1537) : wpX_clean (fun r u' => wpY_clean (fun r' v' => r' = r ∧ i_Rel (k + 3) u' v') v) u := by
  obtain ⟨K, aw, ar, ac, am, ah, w, hK, hw, rfl, rfl⟩ := I
  unfold wpX_clean wpY_clean
  dsimp only
  rcases rc_dich (rc_Dn w) 0 (rc_cn K) with ⟨m, hm, hD, hmin⟩ | hmin
  · have hm' := rc_cn_m hm
    refine xmS (lim := 0) rc_cn_le (by decide) hw hm hD hmin (fun r' => br_f (rc_m4 hm') ?_)
    rcases rc_dich (rc_Dn w) (3 - K) (rc_cn K) with ⟨n, hn, hD2, hmin2⟩ | hmin2
    · have e : rc_Dn w n = 0 := rc_uniq hK hm hn (by omega) hD2
      refine yerS hK hw hn hD2 hmin2 (fun ac' am' => ?_)
      rw [e]
      exact br_t rfl (And.intro rfl (rc_rel hK hw))
    · have := hmin2 m hm
      omega
  · refine xmN (lim := 0) rc_cn_le (by decide) hw hmin (fun r' => br_t rfl ?_)
    rcases rc_dich (rc_Dn w) (3 - K) (rc_cn K) with ⟨n, hn, hD2, hmin2⟩ | hmin2
    · refine yerS hK hw hn hD2 hmin2 (fun ac' am' => br_f (nI_ne0 (hmin n hn) (by omega)) ?_)
      exact And.intro rfl (rc_rel hK hw)
    · exact yerN hK hw hmin2 (fun ac' am' => br_f (by decide) (And.intro rfl (rc_rel hK hw)))
theorem i_vc_coverings {k : Nat} {u : SX} {v : SY} (I : i_Rel k u v) (hk : k + 3 ≤ 1537) : wpX_coverings (fun r => wpY_coverings (fun r' v' => r' = r ∧ i_Rel (k + 3) u v') v) u := by
  obtain ⟨K, aw, ar, ac, am, ah, w, hK, hw, rfl, rfl⟩ := I
  refine xco rc_cn_le hw (fun P hP => ?_)
  exact yco hK hw (fun P' ac' ah' hP' => And.intro (congrArg nI (rc_ct_ext P' P 32 (fun S hS => (hP' S hS).trans (hP S hS).symm))) (rc_rel hK hw))
theorem i_vc_census {k : Nat} {u : SX} {v : SY} (I : i_Rel k u v) (hk : k + 3 ≤ 1537) (v1 : Int32) : wpX_census (fun r u' => wpY_census (fun r' v' => r' = r ∧ i_Rel (k + 3) u' v') v v1) u v1 := by
  obtain ⟨K, aw, ar, ac, am, ah, w, hK, hw, rfl, rfl⟩ := I
  refine xce rc_cn_le (fun r' => ?_)
  exact yce hK (fun ac' am' => And.intro rfl (rc_rel hK hw))
end
