theorem pk_us {f : Nat → Int32} {k : Nat} {x : Int32} : upd f k x k = x := if_pos rfl
theorem pk_un {f : Nat → Int32} {k j : Nat} {x : Int32} (h : j ≠ k) : upd f k x j = f j := if_neg h
theorem pk_sub {a b : Nat} (h : b ≤ a) : nI a - nI b = nI (a - b) := by
  obtain ⟨c, rfl⟩ : ∃ c, a = c + b := ⟨a - b, by omega⟩
  rw [← nI_add, Int32.add_sub_cancel, Nat.add_sub_cancel]
theorem pk_m1 (n : Nat) : nI (n + 1) + (-1) = nI n := by
  rw [← nI_1, Int32.add_assoc, show (1 : Int32) + (-1) = 0 from rfl, Int32.add_zero]
theorem pk_mul (a b : Nat) : nI a * nI b = nI (a * b) := (Int32.ofNat_mul a b).symm
theorem pk_div {a d : Nat} (ha : a < 2 ^ 31) (h0 : 0 < d) (hd : d < 2 ^ 31) : nI a / nI d = nI (a / d) := by
  apply Int32.toInt_inj.mp
  rw [lg_idiv_nonneg (by rw [nI_toInt ha]; omega) (by rw [nI_toInt hd]; omega), nI_toInt ha, nI_toInt hd, nI_toInt (Nat.lt_of_le_of_lt (Nat.div_le_self a d) ha)]
  first | rfl | exact (Int.natCast_ediv _ _).symm
theorem pk_rem {a d : Nat} (ha : a < 2 ^ 31) (h0 : 0 < d) (hd : d < 2 ^ 31) : nI a - nI a / nI d * nI d = nI (a % d) := by
  rw [pk_div ha h0 hd, pk_mul, pk_sub (Nat.div_mul_le_self a d)]
  exact congrArg nI (by have := Nat.div_add_mod' a d; omega)
theorem pk_sub_toInt {a b : Nat} (ha : a < 2 ^ 30) (hb : b < 2 ^ 30) : (nI a - nI b).toInt = (a : Int) - b := by
  rw [Int32.toInt_sub, nI_toInt (by omega), nI_toInt (by omega)]
  exact Int.bmod_eq_of_le (by omega) (by omega)
theorem pk_sneg {a b : Nat} (hb : b < 2 ^ 30) (h : a < b) : nI a - nI b < 0 := by
  rw [Int32.lt_iff_toInt_lt, pk_sub_toInt (by omega) hb, show (0 : Int32).toInt = 0 from by decide]
  omega
theorem pk_ix (x : Int32) {n : Nat} (hn : n < 2 ^ 31) : x < 0 ∨ nI n ≤ x ∨ ∃ j : Nat, j < n ∧ x = nI j := by
  by_cases h : x < 0
  · exact Or.inl h
  · obtain ⟨j, hj, rfl⟩ := nI_of h
    by_cases h2 : j < n
    · exact Or.inr (Or.inr ⟨j, h2, rfl⟩)
    · exact Or.inr (Or.inl (nI_le (by omega) hj))
theorem pk_le {x y : Int32} {A B : Prop} (a b : Nat) (f : a ≤ b → A) (g : b < a → B) (hx : x = nI a := by rfl) (hy : y = nI b := by rfl) (ha : a < 2 ^ 31 := by omega) (hb : b < 2 ^ 31 := by omega) : (x ≤ y → A) ∧ (¬ x ≤ y → B) := by
  subst hx hy
  rw [nI_leI ha hb]
  exact ⟨f, fun z => g (by omega)⟩
theorem pk_lt {x y : Int32} {A B : Prop} (a b : Nat) (f : a < b → A) (g : b ≤ a → B) (hx : x = nI a := by rfl) (hy : y = nI b := by rfl) (ha : a < 2 ^ 31 := by omega) (hb : b < 2 ^ 31 := by omega) : (x < y → A) ∧ (¬ x < y → B) := by
  subst hx hy
  rw [nI_ltI ha hb]
  exact ⟨f, fun z => g (by omega)⟩
theorem pk_eq {x y : Int32} {A B : Prop} (a b : Nat) (f : a = b → A) (g : a ≠ b → B) (hx : x = nI a := by rfl) (hy : y = nI b := by rfl) (ha : a < 2 ^ 31 := by omega) (hb : b < 2 ^ 31 := by omega) : (x = y → A) ∧ (¬ x = y → B) := by
  subst hx hy
  rw [nI_eq ha hb]
  exact ⟨f, g⟩
theorem pk_in {x : Int32} (n N : Nat) (h : n < N) (hx : x = nI n := by rfl) (hN : N < 2 ^ 31 := by omega) : vp_in x N := by
  subst hx
  exact vp_in_nI h hN
theorem pk_cl {x : Int32} (n : Nat) (hx : x = nI n := by rfl) (h : n < 2 ^ 31 := by omega) : x.toNatClampNeg = n := by
  subst hx
  exact nI_clamp h
/-! sums over a range, and how often a number stands among the 384 places -/
def cw_sum (f : Nat → Nat) : Nat → Nat
  | 0 => 0
  | n + 1 => cw_sum f n + f n
theorem cw_sum_congr {f f' : Nat → Nat} (n : Nat) (h : ∀ x, x < n → f x = f' x) : cw_sum f n = cw_sum f' n := by
  induction n with
  | zero => rfl
  | succ n ih =>
    show cw_sum f n + f n = cw_sum f' n + f' n
    rw [ih (fun x hx => h x (by omega)), h n (by omega)]
theorem cw_sum_pt {f f' : Nat → Nat} {x : Nat} (h : ∀ y, y ≠ x → f' y = f y) (n : Nat) (hx : x < n) : cw_sum f' n + f x = cw_sum f n + f' x := by
  induction n with
  | zero => omega
  | succ n ih =>
    show cw_sum f' n + f' n + f x = cw_sum f n + f n + f' x
    by_cases e : x = n
    · subst e
      rw [cw_sum_congr (f := f') (f' := f) x (fun y hy => h y (by omega))]
      omega
    · have h1 := ih (by omega)
      rw [h n (by omega)]
      omega
theorem cw_sum_le {f : Nat → Nat} {M : Nat} (h : ∀ x, f x ≤ M) (n : Nat) : cw_sum f n ≤ n * M := by
  induction n with
  | zero => exact Nat.zero_le _
  | succ n ih =>
    show cw_sum f n + f n ≤ (n + 1) * M
    have h1 := h n
    rw [Nat.succ_mul]
    omega
theorem cw_sum_pos {f : Nat → Nat} (n : Nat) : 0 < cw_sum f n ↔ ∃ x, x < n ∧ 0 < f x := by
  induction n with
  | zero => exact ⟨fun h => absurd h (Nat.lt_irrefl 0), fun ⟨x, hx, _⟩ => absurd hx (Nat.not_lt_zero x)⟩
  | succ n ih =>
    show 0 < cw_sum f n + f n ↔ _
    constructor
    · intro h
      by_cases h1 : 0 < f n
      · exact ⟨n, by omega, h1⟩
      · obtain ⟨x, hx, hf⟩ := ih.mp (by omega)
        exact ⟨x, by omega, hf⟩
    · intro ⟨x, hx, hf⟩
      by_cases e : x = n
      · subst e
        omega
      · have := ih.mpr ⟨x, by omega, hf⟩
        omega
theorem cw_sum_add {f g : Nat → Nat} (n : Nat) : cw_sum (fun x => f x + g x) n = cw_sum f n + cw_sum g n := by
  induction n with
  | zero => rfl
  | succ n ih =>
    show cw_sum (fun x => f x + g x) n + (f n + g n) = cw_sum f n + f n + (cw_sum g n + g n)
    omega
def cw_C (g : Nat → Nat) (c : Nat) : Nat := cw_sum (fun x => if g x = c then 1 else 0) 384
theorem cw_i1 (c : Prop) (h : Decidable c) : (if c then 1 else 0) ≤ 1 := by split <;> omega
theorem cw_C_le (g : Nat → Nat) (c : Nat) : cw_C g c ≤ 384 := by
  have := cw_sum_le (f := fun x => if g x = c then 1 else 0) (M := 1) (fun x => cw_i1 _ _) 384
  exact this
theorem cw_C_pos {g : Nat → Nat} {c : Nat} : 0 < cw_C g c ↔ ∃ x, x < 384 ∧ g x = c := by
  refine (cw_sum_pos 384).trans ⟨fun ⟨x, hx, h⟩ => ⟨x, hx, ?_⟩, fun ⟨x, hx, h⟩ => ⟨x, hx, ?_⟩⟩
  · split at h
    · assumption
    · exact absurd h (Nat.lt_irrefl 0)
  · rw [if_pos h]
    exact Nat.one_pos
def cw_up (g : Nat → Nat) (x e : Nat) : Nat → Nat := fun y => if y = x then e else g y
theorem cw_up_s {g : Nat → Nat} {x e : Nat} : cw_up g x e x = e := if_pos rfl
theorem cw_up_n {g : Nat → Nat} {x e y : Nat} (h : y ≠ x) : cw_up g x e y = g y := if_neg h
theorem cw_up_same (g : Nat → Nat) (x : Nat) : cw_up g x (g x) = g := by
  funext y
  unfold cw_up
  split
  · subst x
    rfl
  · rfl
theorem cw_C_up {g : Nat → Nat} {x e : Nat} (hx : x < 384) (c : Nat) : cw_C (cw_up g x e) c + (if g x = c then 1 else 0) = cw_C g c + (if e = c then 1 else 0) := by
  have h := cw_sum_pt (f := fun y => if g y = c then 1 else 0) (f' := fun y => if cw_up g x e y = c then 1 else 0) (x := x) (fun y hy => by rw [cw_up_n hy]) 384 hx
  rw [cw_up_s] at h
  exact h
theorem cw_C_congr {g g' : Nat → Nat} (h : ∀ x, x < 384 → g x = g' x) (c : Nat) : cw_C g c = cw_C g' c := cw_sum_congr 384 (fun x hx => by rw [h x hx])
/-- copied: places d .. d+i-1 hold what s .. s+i-1 held -/
def cw_cp (g : Nat → Nat) (d s i : Nat) : Nat → Nat := fun x => if d ≤ x ∧ x < d + i then g (x - d + s) else g x
theorem cw_cp_0 (g : Nat → Nat) (d s : Nat) : cw_cp g d s 0 = g := by
  funext x
  exact if_neg (by omega)
theorem cw_cp_s (g : Nat → Nat) (d s i : Nat) : cw_cp g d s (i + 1) = cw_up (cw_cp g d s i) (d + i) (g (s + i)) := by
  funext x
  unfold cw_cp cw_up
  by_cases h : x = d + i
  · rw [if_pos h, if_pos (by omega)]
    congr 1
    omega
  · rw [if_neg h]
    dsimp only
    by_cases h2 : d ≤ x ∧ x < d + i
    · rw [if_pos h2, if_pos (by omega)]
    · rw [if_neg h2, if_neg (by omega)]
theorem cw_cp_at (g : Nat → Nat) (d s i : Nat) : cw_cp g d s i (d + i) = g (d + i) := if_neg (by omega)
theorem cw_cp_in {g : Nat → Nat} {d s i x : Nat} (h : x < i) : cw_cp g d s i (d + x) = g (s + x) := by
  unfold cw_cp
  rw [if_pos (by omega)]
  congr 1
  omega
theorem cw_cp_out {g : Nat → Nat} {d s i x : Nat} (h : x < d ∨ d + i ≤ x) : cw_cp g d s i x = g x := if_neg (by omega)
theorem cw_cp_of {g : Nat → Nat} {d s i x : Nat} (hs : s + i ≤ 384) (hx : x < 384) : ∃ y, y < 384 ∧ cw_cp g d s i x = g y := by
  unfold cw_cp
  by_cases h : d ≤ x ∧ x < d + i
  · rw [if_pos h]
    exact ⟨_, by omega, rfl⟩
  · rw [if_neg h]
    exact ⟨x, hx, rfl⟩
/-- emptied: places d .. d+i-1 hold nothing -/
def cw_z (g : Nat → Nat) (d i : Nat) : Nat → Nat := fun x => if d ≤ x ∧ x < d + i then 0 else g x
theorem cw_z_0 (g : Nat → Nat) (d : Nat) : cw_z g d 0 = g := by
  funext x
  exact if_neg (by omega)
theorem cw_z_s (g : Nat → Nat) (d i : Nat) : cw_z g d (i + 1) = cw_up (cw_z g d i) (d + i) 0 := by
  funext x
  unfold cw_z cw_up
  by_cases h : x = d + i
  · rw [if_pos h, if_pos (by omega)]
  · rw [if_neg h]
    dsimp only
    by_cases h2 : d ≤ x ∧ x < d + i
    · rw [if_pos h2, if_pos (by omega)]
    · rw [if_neg h2, if_neg (by omega)]
theorem cw_z_at (g : Nat → Nat) (d i : Nat) : cw_z g d i (d + i) = g (d + i) := if_neg (by omega)
theorem cw_z_in {g : Nat → Nat} {d i x : Nat} (h : d ≤ x ∧ x < d + i) : cw_z g d i x = 0 := if_pos h
theorem cw_z_out {g : Nat → Nat} {d i x : Nat} (h : x < d ∨ d + i ≤ x) : cw_z g d i x = g x := if_neg (by omega)
/-! numbers -/
theorem cw_b0 : vp_nar .boolean 0 = 0 := by decide
theorem cw_b1 : vp_nar .boolean 1 = 1 := by decide
theorem cw_by0 : vp_nar .byte 0 = 0 := by decide
theorem cw_sh0 : vp_nar .short 0 = 0 := by decide
theorem cw_b01 {x : Int32} (h : x = 0 ∨ x = 1) : vp_nar .boolean x = x := by
  rcases h with h | h <;> subst h <;> decide
theorem cw_n01 {x : Int32} (h : x = 0 ∨ x = 1) : narrow .boolean (.int x) = .int x := by
  rcases h with h | h <;> subst h <;> rfl
theorem cw_byD : ∀ a, a < 128 → (nI a).toInt8.toInt32 = nI a := by decide +kernel
theorem cw_by {a : Nat} (h : a < 128) : vp_nar .byte (nI a) = nI a := cw_byD a h
theorem cw_by2 {a : Nat} (h : a < 128) : vp_nar .byte ((nI a).toInt8.toInt32) = nI a := by rw [cw_byD a h]; exact cw_byD a h
theorem cw_shD : ∀ a, a < 512 → (nI a).toInt16.toInt32 = nI a := by decide +kernel
theorem cw_sh2 {a : Nat} (h : a < 511) : vp_nar .short ((nI a + 1).toInt16.toInt32) = nI (a + 1) := by
  rw [nI_1, cw_shD _ (by omega)]
  exact cw_shD _ (by omega)
theorem cw_e0 : ∀ a, a < 81 → (nI a - 1 = -1 ↔ a = 0) := by decide +kernel
theorem cw_e1 : ∀ a, a < 81 → (nI a - 1 < 0 ↔ a = 0) := by decide +kernel
theorem cw_e2 : ∀ a, a < 81 → (0 ≤ nI a - 1 ↔ ¬ a = 0) := by decide +kernel
theorem cw_em1 : nI 0 - 1 = -1 := by decide
theorem cw_en1 : ∀ a, a < 512 → ¬ nI a = -1 := by decide +kernel
theorem cw_en2 : ∀ a, a < 512 → ¬ nI a = -2 := by decide +kernel
theorem cw_eq {a b : Nat} (ha : a < 2 ^ 31) (hb : b < 2 ^ 31) : nI a - 1 = nI b - 1 ↔ a = b := by
  constructor
  · intro h
    have h1 : nI a - 1 + 1 = nI b - 1 + 1 := by rw [h]
    rw [Int32.sub_add_cancel, Int32.sub_add_cancel] at h1
    exact (nI_eq ha hb).mp h1
  · intro h
    rw [h]
theorem cw_p1 (a : Nat) : nI (a + 1) - 1 = nI a := nI_pred a
theorem cw_s1 {a : Nat} (h : 0 < a) : nI a - 1 = nI (a - 1) := by
  obtain ⟨b, rfl⟩ : ∃ b, a = b + 1 := ⟨a - 1, by omega⟩
  exact nI_pred b
theorem cw_q1 (a : Nat) : nI a - 1 + 1 = nI a := Int32.sub_add_cancel _ _
theorem cw_z0 {a : Nat} (h : a < 2 ^ 31) : nI a = 0 ↔ a = 0 := nI_eq (b := 0) h (by decide)
theorem cw_zl {a : Nat} (h : a < 2 ^ 31) : nI a ≤ 0 ↔ a = 0 := (nI_leI (b := 0) h (by decide)).trans (by omega)
theorem cw_ix1 (v p : Nat) : nI v * 64 + nI p = nI (64 * v + p) := by
  rw [show (64 : Int32) = nI 64 from rfl, pk_mul, nI_add, Nat.mul_comm]
theorem cw_ix2 (v p : Nat) : 64 * nI v + nI p = nI (64 * v + p) := by
  rw [show (64 : Int32) = nI 64 from rfl, pk_mul, nI_add]
theorem cw_ix3 (v p : Nat) : nI v * 80 + nI p = nI (80 * v + p) := by
  rw [show (80 : Int32) = nI 80 from rfl, pk_mul, nI_add, Nat.mul_comm]
theorem cw_ix4 (v p : Nat) : 80 * nI v + nI p = nI (80 * v + p) := by
  rw [show (80 : Int32) = nI 80 from rfl, pk_mul, nI_add]
theorem cw_ix5 (p : Nat) : 80 + nI p = nI (80 + p) := by
  rw [show (80 : Int32) = nI 80 from rfl, nI_add]
theorem cw_cl {n : Nat} (h : n < 100000) : (nI n).toNatClampNeg = n := nI_clamp (by omega)
theorem cw_in {n N : Nat} (h : n < N) (hN : N < 100000) : vp_in (nI n) N := vp_in_nI h (by omega)
/-- x is one of 0 .. n-1 -/
def cw_lt (n : Nat) (x : Int32) : Prop := ∃ j, j < n ∧ x = nI j
theorem cw_lt_neg {n : Nat} {x : Int32} (h : x < 0) (hn : n < 100000) : ¬ cw_lt n x := by
  intro ⟨j, hj, e⟩
  subst e
  exact nI_pos (by omega) h
theorem cw_lt_ge {n : Nat} {x : Int32} (h : nI n ≤ x) (hn : n < 100000) : ¬ cw_lt n x := by
  intro ⟨j, hj, e⟩
  subst e
  exact nI_ge hj (by omega) h
/-- a copy is good here, and not bad there, or the other way round -/
def cw_G (a b : Int32) : Prop := (a = 0 ∧ b = 1) ∨ (a = 1 ∧ b = 0)
theorem cw_G_z {a b : Int32} (h : cw_G a b) : a = 0 ↔ ¬ b = 0 := by
  rcases h with ⟨h1, h2⟩ | ⟨h1, h2⟩ <;> subst h1 <;> subst h2 <;> decide
theorem cw_G_01 {a b : Int32} (h : cw_G a b) : a = 0 ∨ a = 1 := by
  rcases h with ⟨h1, h2⟩ | ⟨h1, h2⟩
  · exact Or.inl h1
  · exact Or.inr h1
/-! the pictures -/
def cw_BK (g : Nat → Nat) (bk : Nat → Int32) : Prop := ∀ x, x < 384 → g x ≤ 80 ∧ bk x = nI (g x) - 1
def cw_HC (g : Nat → Nat) (hc : Nat → Int32) : Prop := ∀ b, b < 80 → hc b = nI (cw_C g (b + 1))
def cw_HA (th : Nat → Int32) (g : Nat → Nat) (ha : Nat → Int32) : Prop := ∀ x, x < 384 → (th (x / 64) = 0 → g x = 0) ∧ (¬ th (x / 64) = 0 → ha x = nI (g x))
def cw_HE (g : Nat → Nat) (he : Nat → Int32) : Prop := ∀ b, b < 80 → he (b + 1) = nI (cw_C g (b + 1))
def cw_RG (g : Nat → Nat) (go ba : Nat → Int32) : Prop := ∀ b, b < 80 → 0 < cw_C g (b + 1) → cw_G (go b) (ba b) ∧ cw_G (go (80 + b)) (ba (80 + b))
