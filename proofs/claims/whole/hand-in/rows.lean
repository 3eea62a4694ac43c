section
theorem pk_us {f : Nat → Int32} {k : Nat} {x : Int32} : upd f k x k = x := if_pos rfl
theorem pk_un {f : Nat → Int32} {k j : Nat} {x : Int32} (h : j ≠ k) : upd f k x j = f j := if_neg h
theorem pk_sub {a b : Nat} (h : b ≤ a) : nI a - nI b = nI (a - b) := by
  obtain ⟨c, rfl⟩ : ∃ c, a = c + b := ⟨a - b, by omega⟩
  rw [← nI_add, Int32.add_sub_cancel, Nat.add_sub_cancel]
theorem pk_m1 (n : Nat) : nI (n + 1) + (-1) = nI n := by
  rw [← nI_1, Int32.add_assoc, show (1 : Int32) + (-1) = 0 from rfl, Int32.add_zero]
theorem pk_mul (a b : Nat) : nI a * nI b = nI (a * b) := (Int32.ofNat_mul a b).symm
theorem pk_div {a d : Nat} (ha : a < 2 ^ 31) (h0 : 0 < d) (hd : d < 2 ^ 31) : nI a / nI d = nI (a / d) := by
  apply Int32.toInt_inj.mp
  rw [lg_idiv_nonneg (by rw [nI_toInt ha]; omega) (by rw [nI_toInt hd]; omega), nI_toInt ha, nI_toInt hd, nI_toInt (Nat.lt_of_le_of_lt (Nat.div_le_self a d) ha)]
  first | rfl | exact (Int.natCast_ediv _ _).symm
theorem pk_rem {a d : Nat} (ha : a < 2 ^ 31) (h0 : 0 < d) (hd : d < 2 ^ 31) : nI a - nI a / nI d * nI d = nI (a % d) := by
  rw [pk_div ha h0 hd, pk_mul, pk_sub (Nat.div_mul_le_self a d)]
  exact congrArg nI (by have := Nat.div_add_mod' a d; omega)
theorem pk_sub_toInt {a b : Nat} (ha : a < 2 ^ 30) (hb : b < 2 ^ 30) : (nI a - nI b).toInt = (a : Int) - b := by
  rw [Int32.toInt_sub, nI_toInt (by omega), nI_toInt (by omega)]
  exact Int.bmod_eq_of_le (by omega) (by omega)
theorem pk_sneg {a b : Nat} (hb : b < 2 ^ 30) (h : a < b) : nI a - nI b < 0 := by
  rw [Int32.lt_iff_toInt_lt, pk_sub_toInt (by omega) hb, show (0 : Int32).toInt = 0 from by decide]
  omega
theorem pk_ix (x : Int32) {n : Nat} (hn : n < 2 ^ 31) : x < 0 ∨ nI n ≤ x ∨ ∃ j : Nat, j < n ∧ x = nI j := by
  by_cases h : x < 0
  · exact Or.inl h
  · obtain ⟨j, hj, rfl⟩ := nI_of h
    by_cases h2 : j < n
    · exact Or.inr (Or.inr ⟨j, h2, rfl⟩)
    · exact Or.inr (Or.inl (nI_le (by omega) hj))
theorem pk_le {x y : Int32} {A B : Prop} (a b : Nat) (f : a ≤ b → A) (g : b < a → B) (hx : x = nI a := by rfl) (hy : y = nI b := by rfl) (ha : a < 2 ^ 31 := by omega) (hb : b < 2 ^ 31 := by omega) : (x ≤ y → A) ∧ (¬ x ≤ y → B) := by
  subst hx hy
  rw [nI_leI ha hb]
  exact ⟨f, fun z => g (by omega)⟩
theorem pk_lt {x y : Int32} {A B : Prop} (a b : Nat) (f : a < b → A) (g : b ≤ a → B) (hx : x = nI a := by rfl) (hy : y = nI b := by rfl) (ha : a < 2 ^ 31 := by omega) (hb : b < 2 ^ 31 := by omega) : (x < y → A) ∧ (¬ x < y → B) := by
  subst hx hy
  rw [nI_ltI ha hb]
  exact ⟨f, fun z => g (by omega)⟩
theorem pk_eq {x y : Int32} {A B : Prop} (a b : Nat) (f : a = b → A) (g : a ≠ b → B) (hx : x = nI a := by rfl) (hy : y = nI b := by rfl) (ha : a < 2 ^ 31 := by omega) (hb : b < 2 ^ 31 := by omega) : (x = y → A) ∧ (¬ x = y → B) := by
  subst hx hy
  rw [nI_eq ha hb]
  exact ⟨f, g⟩
theorem pk_in {x : Int32} (n N : Nat) (h : n < N) (hx : x = nI n := by rfl) (hN : N < 2 ^ 31 := by omega) : vp_in x N := by
  subst hx
  exact vp_in_nI h hN
theorem pk_cl {x : Int32} (n : Nat) (hx : x = nI n := by rfl) (h : n < 2 ^ 31 := by omega) : x.toNatClampNeg = n := by
  subst hx
  exact nI_clamp h
/-! sums over a range, and how often a number stands among the 384 places -/
def cw_sum (f : Nat → Nat) : Nat → Nat
  | 0 => 0
  | n + 1 => cw_sum f n + f n
theorem cw_sum_congr {f f' : Nat → Nat} (n : Nat) (h : ∀ x, x < n → f x = f' x) : cw_sum f n = cw_sum f' n := by
  induction n with
  | zero => rfl
  | succ n ih =>
    show cw_sum f n + f n = cw_sum f' n + f' n
    rw [ih (fun x hx => h x (by omega)), h n (by omega)]
theorem cw_sum_pt {f f' : Nat → Nat} {x : Nat} (h : ∀ y, y ≠ x → f' y = f y) (n : Nat) (hx : x < n) : cw_sum f' n + f x = cw_sum f n + f' x := by
  induction n with
  | zero => omega
  | succ n ih =>
    show cw_sum f' n + f' n + f x = cw_sum f n + f n + f' x
    by_cases e : x = n
    · subst e
      rw [cw_sum_congr (f := f') (f' := f) x (fun y hy => h y (by omega))]
      omega
    · have h1 := ih (by omega)
      rw [h n (by omega)]
      omega
theorem cw_sum_le {f : Nat → Nat} {M : Nat} (h : ∀ x, f x ≤ M) (n : Nat) : cw_sum f n ≤ n * M := by
  induction n with
  | zero => exact Nat.zero_le _
  | succ n ih =>
    show cw_sum f n + f n ≤ (n + 1) * M
    have h1 := h n
    rw [Nat.succ_mul]
    omega
theorem cw_sum_pos {f : Nat → Nat} (n : Nat) : 0 < cw_sum f n ↔ ∃ x, x < n ∧ 0 < f x := by
  induction n with
  | zero => exact ⟨fun h => absurd h (Nat.lt_irrefl 0), fun ⟨x, hx, _⟩ => absurd hx (Nat.not_lt_zero x)⟩
  | succ n ih =>
    show 0 < cw_sum f n + f n ↔ _
    constructor
    · intro h
      by_cases h1 : 0 < f n
      · exact ⟨n, by omega, h1⟩
      · obtain ⟨x, hx, hf⟩ := ih.mp (by omega)
        exact ⟨x, by omega, hf⟩
    · intro ⟨x, hx, hf⟩
      by_cases e : x = n
      · subst e
        omega
      · have := ih.mpr ⟨x, by omega, hf⟩
        omega
theorem cw_sum_add {f g : Nat → Nat} (n : Nat) : cw_sum (fun x => f x + g x) n = cw_sum f n + cw_sum g n := by
  induction n with
  | zero => rfl
  | succ n ih =>
    show cw_sum (fun x => f x + g x) n + (f n + g n) = cw_sum f n + f n + (cw_sum g n + g n)
    omega
def cw_C (g : Nat → Nat) (c : Nat) : Nat := cw_sum (fun x => if g x = c then 1 else 0) 384
theorem cw_i1 (c : Prop) (h : Decidable c) : (if c then 1 else 0) ≤ 1 := by split <;> omega
theorem cw_C_le (g : Nat → Nat) (c : Nat) : cw_C g c ≤ 384 := by
  have := cw_sum_le (f := fun x => if g x = c then 1 else 0) (M := 1) (fun x => cw_i1 _ _) 384
  exact this
theorem cw_C_pos {g : Nat → Nat} {c : Nat} : 0 < cw_C g c ↔ ∃ x, x < 384 ∧ g x = c := by
  refine (cw_sum_pos 384).trans ⟨fun ⟨x, hx, h⟩ => ⟨x, hx, ?_⟩, fun ⟨x, hx, h⟩ => ⟨x, hx, ?_⟩⟩
  · split at h
    · assumption
    · exact absurd h (Nat.lt_irrefl 0)
  · rw [if_pos h]
    exact Nat.one_pos
def cw_up (g : Nat → Nat) (x e : Nat) : Nat → Nat := fun y => if y = x then e else g y
theorem cw_up_s {g : Nat → Nat} {x e : Nat} : cw_up g x e x = e := if_pos rfl
theorem cw_up_n {g : Nat → Nat} {x e y : Nat} (h : y ≠ x) : cw_up g x e y = g y := if_neg h
theorem cw_up_same (g : Nat → Nat) (x : Nat) : cw_up g x (g x) = g := by
  funext y
  unfold cw_up
  split
  · subst x
    rfl
  · rfl
theorem cw_C_up {g : Nat → Nat} {x e : Nat} (hx : x < 384) (c : Nat) : cw_C (cw_up g x e) c + (if g x = c then 1 else 0) = cw_C g c + (if e = c then 1 else 0) := by
  have h := cw_sum_pt (f := fun y => if g y = c then 1 else 0) (f' := fun y => if cw_up g x e y = c then 1 else 0) (x := x) (fun y hy => by rw [cw_up_n hy]) 384 hx
  rw [cw_up_s] at h
  exact h
theorem cw_C_congr {g g' : Nat → Nat} (h : ∀ x, x < 384 → g x = g' x) (c : Nat) : cw_C g c = cw_C g' c := cw_sum_congr 384 (fun x hx => by rw [h x hx])
/-- copied: places d .. d+i-1 hold what s .. s+i-1 held -/
def cw_cp (g : Nat → Nat) (d s i : Nat) : Nat → Nat := fun x => if d ≤ x ∧ x < d + i then g (x - d + s) else g x
theorem cw_cp_0 (g : Nat → Nat) (d s : Nat) : cw_cp g d s 0 = g := by
  funext x
  exact if_neg (by omega)
theorem cw_cp_s (g : Nat → Nat) (d s i : Nat) : cw_cp g d s (i + 1) = cw_up (cw_cp g d s i) (d + i) (g (s + i)) := by
  funext x
  unfold cw_cp cw_up
  by_cases h : x = d + i
  · rw [if_pos h, if_pos (by omega)]
    congr 1
    omega
  · rw [if_neg h]
    dsimp only
    by_cases h2 : d ≤ x ∧ x < d + i
    · rw [if_pos h2, if_pos (by omega)]
    · rw [if_neg h2, if_neg (by omega)]
theorem cw_cp_at (g : Nat → Nat) (d s i : Nat) : cw_cp g d s i (d + i) = g (d + i) := if_neg (by omega)
theorem cw_cp_in {g : Nat → Nat} {d s i x : Nat} (h : x < i) : cw_cp g d s i (d + x) = g (s + x) := by
  unfold cw_cp
  rw [if_pos (by omega)]
  congr 1
  omega
theorem cw_cp_out {g : Nat → Nat} {d s i x : Nat} (h : x < d ∨ d + i ≤ x) : cw_cp g d s i x = g x := if_neg (by omega)
theorem cw_cp_of {g : Nat → Nat} {d s i x : Nat} (hs : s + i ≤ 384) (hx : x < 384) : ∃ y, y < 384 ∧ cw_cp g d s i x = g y := by
  unfold cw_cp
  by_cases h : d ≤ x ∧ x < d + i
  · rw [if_pos h]
    exact ⟨_, by omega, rfl⟩
  · rw [if_neg h]
    exact ⟨x, hx, rfl⟩
/-- emptied: places d .. d+i-1 hold nothing -/
def cw_z (g : Nat → Nat) (d i : Nat) : Nat → Nat := fun x => if d ≤ x ∧ x < d + i then 0 else g x
theorem cw_z_0 (g : Nat → Nat) (d : Nat) : cw_z g d 0 = g := by
  funext x
  exact if_neg (by omega)
theorem cw_z_s (g : Nat → Nat) (d i : Nat) : cw_z g d (i + 1) = cw_up (cw_z g d i) (d + i) 0 := by
  funext x
  unfold cw_z cw_up
  by_cases h : x = d + i
  · rw [if_pos h, if_pos (by omega)]
  · rw [if_neg h]
    dsimp only
    by_cases h2 : d ≤ x ∧ x < d + i
    · rw [if_pos h2, if_pos (by omega)]
    · rw [if_neg h2, if_neg (by omega)]
theorem cw_z_at (g : Nat → Nat) (d i : Nat) : cw_z g d i (d + i) = g (d + i) := if_neg (by omega)
theorem cw_z_in {g : Nat → Nat} {d i x : Nat} (h : d ≤ x ∧ x < d + i) : cw_z g d i x = 0 := if_pos h
theorem cw_z_out {g : Nat → Nat} {d i x : Nat} (h : x < d ∨ d + i ≤ x) : cw_z g d i x = g x := if_neg (by omega)
/-! numbers -/
theorem cw_b0 : vp_nar .boolean 0 = 0 := by decide
theorem cw_b1 : vp_nar .boolean 1 = 1 := by decide
theorem cw_by0 : vp_nar .byte 0 = 0 := by decide
theorem cw_sh0 : vp_nar .short 0 = 0 := by decide
theorem cw_b01 {x : Int32} (h : x = 0 ∨ x = 1) : vp_nar .boolean x = x := by
  rcases h with h | h <;> subst h <;> decide
theorem cw_n01 {x : Int32} (h : x = 0 ∨ x = 1) : narrow .boolean (.int x) = .int x := by
  rcases h with h | h <;> subst h <;> rfl
theorem cw_byD : ∀ a, a < 128 → (nI a).toInt8.toInt32 = nI a := by decide +kernel
theorem cw_by {a : Nat} (h : a < 128) : vp_nar .byte (nI a) = nI a := cw_byD a h
theorem cw_by2 {a : Nat} (h : a < 128) : vp_nar .byte ((nI a).toInt8.toInt32) = nI a := by rw [cw_byD a h]; exact cw_byD a h
theorem cw_shD : ∀ a, a < 512 → (nI a).toInt16.toInt32 = nI a := by decide +kernel
theorem cw_sh2 {a : Nat} (h : a < 511) : vp_nar .short ((nI a + 1).toInt16.toInt32) = nI (a + 1) := by
  rw [nI_1, cw_shD _ (by omega)]
  exact cw_shD _ (by omega)
theorem cw_e0 : ∀ a, a < 81 → (nI a - 1 = -1 ↔ a = 0) := by decide +kernel
theorem cw_e1 : ∀ a, a < 81 → (nI a - 1 < 0 ↔ a = 0) := by decide +kernel
theorem cw_e2 : ∀ a, a < 81 → (0 ≤ nI a - 1 ↔ ¬ a = 0) := by decide +kernel
theorem cw_em1 : nI 0 - 1 = -1 := by decide
theorem cw_en1 : ∀ a, a < 512 → ¬ nI a = -1 := by decide +kernel
theorem cw_en2 : ∀ a, a < 512 → ¬ nI a = -2 := by decide +kernel
theorem cw_eq {a b : Nat} (ha : a < 2 ^ 31) (hb : b < 2 ^ 31) : nI a - 1 = nI b - 1 ↔ a = b := by
  constructor
  · intro h
    have h1 : nI a - 1 + 1 = nI b - 1 + 1 := by rw [h]
    rw [Int32.sub_add_cancel, Int32.sub_add_cancel] at h1
    exact (nI_eq ha hb).mp h1
  · intro h
    rw [h]
theorem cw_p1 (a : Nat) : nI (a + 1) - 1 = nI a := nI_pred a
theorem cw_s1 {a : Nat} (h : 0 < a) : nI a - 1 = nI (a - 1) := by
  obtain ⟨b, rfl⟩ : ∃ b, a = b + 1 := ⟨a - 1, by omega⟩
  exact nI_pred b
theorem cw_q1 (a : Nat) : nI a - 1 + 1 = nI a := Int32.sub_add_cancel _ _
theorem cw_z0 {a : Nat} (h : a < 2 ^ 31) : nI a = 0 ↔ a = 0 := nI_eq (b := 0) h (by decide)
theorem cw_zl {a : Nat} (h : a < 2 ^ 31) : nI a ≤ 0 ↔ a = 0 := (nI_leI (b := 0) h (by decide)).trans (by omega)
theorem cw_ix1 (v p : Nat) : nI v * 64 + nI p = nI (64 * v + p) := by
  rw [show (64 : Int32) = nI 64 from rfl, pk_mul, nI_add, Nat.mul_comm]
theorem cw_ix2 (v p : Nat) : 64 * nI v + nI p = nI (64 * v + p) := by
  rw [show (64 : Int32) = nI 64 from rfl, pk_mul, nI_add]
theorem cw_ix3 (v p : Nat) : nI v * 80 + nI p = nI (80 * v + p) := by
  rw [show (80 : Int32) = nI 80 from rfl, pk_mul, nI_add, Nat.mul_comm]
theorem cw_ix4 (v p : Nat) : 80 * nI v + nI p = nI (80 * v + p) := by
  rw [show (80 : Int32) = nI 80 from rfl, pk_mul, nI_add]
theorem cw_ix5 (p : Nat) : 80 + nI p = nI (80 + p) := by
  rw [show (80 : Int32) = nI 80 from rfl, nI_add]
theorem cw_cl {n : Nat} (h : n < 100000) : (nI n).toNatClampNeg = n := nI_clamp (by omega)
theorem cw_in {n N : Nat} (h : n < N) (hN : N < 100000) : vp_in (nI n) N := vp_in_nI h (by omega)
/-- x is one of 0 .. n-1 -/
def cw_lt (n : Nat) (x : Int32) : Prop := ∃ j, j < n ∧ x = nI j
theorem cw_lt_neg {n : Nat} {x : Int32} (h : x < 0) (hn : n < 100000) : ¬ cw_lt n x := by
  intro ⟨j, hj, e⟩
  subst e
  exact nI_pos (by omega) h
theorem cw_lt_ge {n : Nat} {x : Int32} (h : nI n ≤ x) (hn : n < 100000) : ¬ cw_lt n x := by
  intro ⟨j, hj, e⟩
  subst e
  exact nI_ge hj (by omega) h
/-- a copy is good here, and not bad there, or the other way round -/
def cw_G (a b : Int32) : Prop := (a = 0 ∧ b = 1) ∨ (a = 1 ∧ b = 0)
theorem cw_G_z {a b : Int32} (h : cw_G a b) : a = 0 ↔ ¬ b = 0 := by
  rcases h with ⟨h1, h2⟩ | ⟨h1, h2⟩ <;> subst h1 <;> subst h2 <;> decide
theorem cw_G_01 {a b : Int32} (h : cw_G a b) : a = 0 ∨ a = 1 := by
  rcases h with ⟨h1, h2⟩ | ⟨h1, h2⟩
  · exact Or.inl h1
  · exact Or.inr h1
/-! the pictures -/
def cw_BK (g : Nat → Nat) (bk : Nat → Int32) : Prop := ∀ x, x < 384 → g x ≤ 80 ∧ bk x = nI (g x) - 1
def cw_HC (g : Nat → Nat) (hc : Nat → Int32) : Prop := ∀ b, b < 80 → hc b = nI (cw_C g (b + 1))
def cw_HA (th : Nat → Int32) (g : Nat → Nat) (ha : Nat → Int32) : Prop := ∀ x, x < 384 → (th (x / 64) = 0 → g x = 0) ∧ (¬ th (x / 64) = 0 → ha x = nI (g x))
def cw_HE (g : Nat → Nat) (he : Nat → Int32) : Prop := ∀ b, b < 80 → he (b + 1) = nI (cw_C g (b + 1))
def cw_RG (g : Nat → Nat) (go ba : Nat → Int32) : Prop := ∀ b, b < 80 → 0 < cw_C g (b + 1) → cw_G (go b) (ba b) ∧ cw_G (go (80 + b)) (ba (80 + b))
end
section
section
variable {fs fh fl : Int32} {th wr bk hc va go lo sp sv sh sd fr ha be ba sV he : Nat → Int32}
def cw_is (th : Nat → Int32) (x : Int32) : Prop := ∃ v, v < 6 ∧ x = nI v ∧ ¬ th v = 0
def cw_wr (th wr : Nat → Int32) (x : Int32) : Prop := ∃ v, v < 6 ∧ x = nI v ∧ ¬ th v = 0 ∧ ¬ wr v = 0
def cw_wf (th fr : Nat → Int32) (x : Int32) : Prop := ∃ v, v < 6 ∧ x = nI v ∧ ¬ th v = 0 ∧ fr v = 0
def cw_us (g : Nat → Nat) (x : Int32) : Prop := ∃ b, b < 80 ∧ x = nI b ∧ 0 < cw_C g (b + 1)
def cw_WF (th wr fr : Nat → Int32) : Prop := ∀ v, v < 6 → ¬ th v = 0 → (wr v = 0 ↔ ¬ fr v = 0)
theorem cw_wrf (h : cw_WF th wr fr) (x : Int32) : cw_wr th wr x ↔ cw_wf th fr x := by
  constructor
  · intro ⟨v, hv, e, ht, hw⟩
    exact ⟨v, hv, e, ht, Classical.byContradiction fun z => hw ((h v hv ht).mpr z)⟩
  · intro ⟨v, hv, e, ht, hw⟩
    exact ⟨v, hv, e, ht, fun z => (h v hv ht).mp z hw⟩
theorem cx_place_t {P : Int32 → Prop} {p : Nat} (hp : p < 64) (h : P 1) : wpX_isPlace P (nI p) := by
  unfold wpX_isPlace
  exact br_f (nI_pos (by omega)) (br_f (nI_ge (b := 64) hp (by decide)) h)
theorem cx_place_f {P : Int32 → Prop} {x : Int32} (hx : ¬ cw_lt 64 x) (h : P 0) : wpX_isPlace P x := by
  unfold wpX_isPlace
  rcases pk_ix x (n := 64) (by decide) with h1 | h1 | ⟨j, hj, e⟩
  · exact br_t h1 h
  · exact br_c (fun _ => h) (fun _ => br_t h1 h)
  · exact absurd ⟨j, hj, e⟩ hx
theorem cx_disk_t {P : Int32 → Prop} {p : Nat} (hp : p < 2) (h : P 1) : wpX_isDisk P (nI p) := by
  unfold wpX_isDisk
  exact br_f (nI_pos (by omega)) (br_f (nI_ge (b := 2) hp (by decide)) h)
theorem cx_disk_f {P : Int32 → Prop} {x : Int32} (hx : ¬ cw_lt 2 x) (h : P 0) : wpX_isDisk P x := by
  unfold wpX_isDisk
  rcases pk_ix x (n := 2) (by decide) with h1 | h1 | ⟨j, hj, e⟩
  · exact br_t h1 h
  · exact br_c (fun _ => h) (fun _ => br_t h1 h)
  · exact absurd ⟨j, hj, e⟩ hx
theorem cy_out_t {P : Int32 → Prop} {p n : Nat} (hp : p < n) (hn : n < 100000) (h : P 0) : wpY_out P (nI p) (nI n) := by
  unfold wpY_out
  exact br_f (nI_pos (by omega)) (br_t (nI_lt hp (by omega)) h)
theorem cy_out_f {P : Int32 → Prop} {x : Int32} {n : Nat} (hx : ¬ cw_lt n x) (hn : n < 100000) (h : P 1) : wpY_out P x (nI n) := by
  unfold wpY_out
  rcases pk_ix x (n := n) (by omega) with h1 | h1 | ⟨j, hj, e⟩
  · exact br_t h1 h
  · exact br_c (fun _ => h) (fun _ => br_f (Int32.not_lt.mpr h1) h)
  · exact absurd ⟨j, hj, e⟩ hx
theorem cx_is_t {P : Int32 → Prop} {v : Nat} (hv : v < 6) (ht : ¬ th v = 0) (h : P 1) : wpX_isThere P (fs, fh, fl, th, wr, bk, hc, va, go, lo, sp, sv, sh, sd) (nI v) := by
  unfold wpX_isThere
  dsimp only
  refine br_f (nI_pos (by omega)) (br_f (nI_ge (b := 6) hv (by decide)) ⟨cw_in hv (by decide), ?_⟩)
  rw [cw_cl (by omega)]
  exact br_f ht h
theorem cx_is_f {P : Int32 → Prop} {x : Int32} (hx : ¬ cw_is th x) (h : P 0) : wpX_isThere P (fs, fh, fl, th, wr, bk, hc, va, go, lo, sp, sv, sh, sd) x := by
  unfold wpX_isThere
  dsimp only
  rcases pk_ix x (n := 6) (by decide) with h1 | h1 | ⟨j, hj, e⟩
  · exact br_t h1 h
  · exact br_c (fun _ => h) (fun _ => br_t h1 h)
  · subst e
    refine br_f (nI_pos (by omega)) (br_f (nI_ge (b := 6) hj (by decide)) ⟨cw_in hj (by decide), ?_⟩)
    rw [cw_cl (by omega)]
    exact br_c (fun _ => h) (fun z => absurd ⟨j, hj, rfl, z⟩ hx)
theorem cy_is_t {P : Int32 → Prop} {v : Nat} (hv : v < 6) (ht : ¬ th v = 0) (h : P 1) : wpY_is P (fs, fh, fl, th, fr, ha, be, va, ba, lo, sV, he, sp, sh) (nI v) := by
  unfold wpY_is
  dsimp only
  refine cy_out_t hv (by decide) (br_t rfl ⟨cw_in hv (by decide), ?_⟩)
  rw [cw_cl (by omega)]
  exact br_f ht h
theorem cy_is_f {P : Int32 → Prop} {x : Int32} (hx : ¬ cw_is th x) (h : P 0) : wpY_is P (fs, fh, fl, th, fr, ha, be, va, ba, lo, sV, he, sp, sh) x := by
  unfold wpY_is
  dsimp only
  by_cases hl : cw_lt 6 x
  · obtain ⟨j, hj, e⟩ := hl
    subst e
    refine cy_out_t hj (by decide) (br_t rfl ⟨cw_in hj (by decide), ?_⟩)
    rw [cw_cl (by omega)]
    exact br_c (fun _ => h) (fun z => absurd ⟨j, hj, rfl, z⟩ hx)
  · exact cy_out_f hl (by decide) (br_f (by decide) h)
theorem cx_wr_t {P : Int32 → Prop} {v : Nat} (hv : v < 6) (ht : ¬ th v = 0) (hw : ¬ wr v = 0) (h : P 1) : wpX_isWritable P (fs, fh, fl, th, wr, bk, hc, va, go, lo, sp, sv, sh, sd) (nI v) := by
  unfold wpX_isWritable
  dsimp only
  refine cx_is_t hv ht (br_f (by decide) ⟨cw_in hv (by decide), ?_⟩)
  rw [cw_cl (by omega)]
  exact br_f hw h
theorem cx_wr_f {P : Int32 → Prop} {x : Int32} (hx : ¬ cw_wr th wr x) (h : P 0) : wpX_isWritable P (fs, fh, fl, th, wr, bk, hc, va, go, lo, sp, sv, sh, sd) x := by
  unfold wpX_isWritable
  dsimp only
  by_cases hl : cw_is th x
  · obtain ⟨j, hj, e, ht⟩ := hl
    subst e
    refine cx_is_t hj ht (br_f (by decide) ⟨cw_in hj (by decide), ?_⟩)
    rw [cw_cl (by omega)]
    exact br_c (fun _ => h) (fun z => absurd ⟨j, hj, rfl, ht, z⟩ hx)
  · exact cx_is_f hl (br_t rfl h)
theorem cy_wr_t {P : Int32 → Prop} {v : Nat} (hv : v < 6) (ht : ¬ th v = 0) (hw : fr v = 0) (h : P 1) : wpY_writable P (fs, fh, fl, th, fr, ha, be, va, ba, lo, sV, he, sp, sh) (nI v) := by
  unfold wpY_writable
  dsimp only
  refine cy_is_t hv ht (br_f (by decide) ⟨cw_in hv (by decide), ?_⟩)
  rw [cw_cl (by omega)]
  exact br_t hw h
theorem cy_wr_f {P : Int32 → Prop} {x : Int32} (hx : ¬ cw_wf th fr x) (h : P 0) : wpY_writable P (fs, fh, fl, th, fr, ha, be, va, ba, lo, sV, he, sp, sh) x := by
  unfold wpY_writable
  dsimp only
  by_cases hl : cw_is th x
  · obtain ⟨j, hj, e, ht⟩ := hl
    subst e
    refine cy_is_t hj ht (br_f (by decide) ⟨cw_in hj (by decide), ?_⟩)
    rw [cw_cl (by omega)]
    exact br_c (fun z => absurd ⟨j, hj, rfl, ht, z⟩ hx) (fun _ => h)
  · exact cy_is_f hl (br_t rfl h)
theorem cx_used_t {P : Int32 → Prop} {g : Nat → Nat} {b : Nat} (hb : b < 80) (hh : cw_HC g hc) (hu : 0 < cw_C g (b + 1)) (h : P 1) : wpX_isUsed P (fs, fh, fl, th, wr, bk, hc, va, go, lo, sp, sv, sh, sd) (nI b) := by
  unfold wpX_isUsed
  dsimp only
  refine br_f (nI_pos (by omega)) (br_f (nI_ge (b := 80) hb (by decide)) ⟨cw_in hb (by decide), ?_⟩)
  have hl := cw_C_le g (b + 1)
  rw [cw_cl (by omega), hh b hb, cw_zl (by omega)]
  exact br_f (by omega) h
theorem cx_used_z {P : Int32 → Prop} {g : Nat → Nat} {b : Nat} (hb : b < 80) (hh : cw_HC g hc) (hu : ¬ 0 < cw_C g (b + 1)) (h : P 0) : wpX_isUsed P (fs, fh, fl, th, wr, bk, hc, va, go, lo, sp, sv, sh, sd) (nI b) := by
  unfold wpX_isUsed
  dsimp only
  refine br_f (nI_pos (by omega)) (br_f (nI_ge (b := 80) hb (by decide)) ⟨cw_in hb (by decide), ?_⟩)
  have hl := cw_C_le g (b + 1)
  rw [cw_cl (by omega), hh b hb, cw_zl (by omega)]
  exact br_t (by omega) h
theorem cx_used_f {P : Int32 → Prop} {x : Int32} (hx : ¬ cw_lt 80 x) (h : P 0) : wpX_isUsed P (fs, fh, fl, th, wr, bk, hc, va, go, lo, sp, sv, sh, sd) x := by
  unfold wpX_isUsed
  dsimp only
  rcases pk_ix x (n := 80) (by decide) with h1 | h1 | ⟨j, hj, e⟩
  · exact br_t h1 h
  · exact br_c (fun _ => h) (fun _ => br_t h1 h)
  · exact absurd ⟨j, hj, e⟩ hx
theorem cx_range_t {P : Int32 → Prop} {p n : Nat} (hn : n ≤ 64) (hp : p < 65 - n) (h : P 1) : wpX_isRange P (nI p) (nI n) := by
  unfold wpX_isRange
  refine br_f (nI_pos (by omega)) (br_f (nI_nlt (a := 64) hn (by decide)) (br_f (nI_pos (by omega)) ?_))
  rw [show (64 : Int32) = nI 64 from rfl, pk_sub hn]
  exact br_f (nI_nlt (by omega) (by omega)) h
theorem cx_range_f1 {P : Int32 → Prop} {x y : Int32} (hy : ¬ cw_lt 65 y) (h : P 0) : wpX_isRange P x y := by
  unfold wpX_isRange
  rcases pk_ix y (n := 65) (by decide) with h1 | h1 | ⟨j, hj, e⟩
  · exact br_t h1 h
  · exact br_c (fun _ => h) (fun _ => br_t (Int32.lt_of_lt_of_le (show (64 : Int32) < nI 65 by decide) h1) h)
  · exact absurd ⟨j, hj, e⟩ hy
theorem cx_range_f2 {P : Int32 → Prop} {x : Int32} {n : Nat} (hn : n ≤ 64) (hx : ¬ cw_lt (65 - n) x) (h : P 0) : wpX_isRange P x (nI n) := by
  unfold wpX_isRange
  refine br_f (nI_pos (by omega)) (br_f (nI_nlt (a := 64) hn (by decide)) ?_)
  rw [show (64 : Int32) = nI 64 from rfl, pk_sub hn]
  rcases pk_ix x (n := 65 - n) (by omega) with h1 | h1 | ⟨j, hj, e⟩
  · exact br_t h1 h
  · exact br_c (fun _ => h) (fun _ => br_t (Int32.lt_of_lt_of_le (nI_lt (by omega) (by omega)) h1) h)
  · exact absurd ⟨j, hj, e⟩ hx
end
end
section
section
variable {fs fh fl : Int32} {th wr bk hc va go lo sp sv sh sd fr ha be ba sV he : Nat → Int32}
theorem cx_put28 {v p c : Nat} {e : Int32} (hx : 64 * v + p < 384) (hc80 : c ≤ 80) {P : Int32 → SX → Prop} (hP : P (if ¬ c = 0 ∧ hc (c - 1) - 1 = 0 then 1 else 0) (fs, fh, fl, th, wr, upd bk (64 * v + p) e, if c = 0 then hc else upd hc (c - 1) (hc (c - 1) - 1), va, go, lo, sp, sv, sh, sd)) : wX_putBlock_28 P (nI v) (nI p) e (nI c - 1) fs fh fl th wr bk hc va go lo sp sv sh sd := by
  unfold wX_putBlock_28
  rw [cw_ix1, cw_cl (by omega)]
  refine ⟨cw_in hx (by decide), nm_e ?_⟩
  by_cases h0 : c = 0
  · subst h0
    exact br_t cw_em1 hP
  · rw [if_neg h0] at hP
    rw [cw_s1 (by omega), cw_cl (by omega)]
    have hi : vp_in (nI (c - 1)) 80 := cw_in (by omega) (by decide)
    refine br_f (cw_en1 _ (by omega)) ⟨hi, hi, nm_e ⟨hi, ?_⟩⟩
    rw [pk_us]
    by_cases hz : hc (c - 1) - 1 = 0
    · rw [if_pos ⟨h0, hz⟩] at hP
      exact br_t hz hP
    · rw [if_neg (fun z => hz z.2)] at hP
      exact br_f hz hP
/-- the holder counts behind a put of e where c was -/
def cw_h1 (hc : Nat → Int32) (e : Nat) : Nat → Int32 := if e = 0 then hc else upd hc (e - 1) (hc (e - 1) + 1)
def cw_h2 (hc : Nat → Int32) (c : Nat) : Nat → Int32 := if c = 0 then hc else upd hc (c - 1) (hc (c - 1) - 1)
theorem cw_h1_v {g : Nat → Nat} {e : Nat} (hh : cw_HC g hc) {b : Nat} (hb : b < 80) : cw_h1 hc e b = nI (cw_C g (b + 1) + (if e = b + 1 then 1 else 0)) := by
  unfold cw_h1
  by_cases h0 : e = 0
  · rw [if_pos h0, if_neg (by omega), hh b hb]; rfl
  · rw [if_neg h0]
    by_cases hb1 : b = e - 1
    · rw [hb1, pk_us, hh _ (by omega), if_pos (by omega), nI_1]
    · rw [pk_un hb1, hh b hb, if_neg (by omega)]; rfl
theorem cw_h12 {g : Nat → Nat} {x e : Nat} (hx : x < 384) (hg : g x ≤ 80) (hh : cw_HC g hc) : cw_HC (cw_up g x e) (cw_h2 (cw_h1 hc e) (g x)) := by
  intro b hb
  have key := cw_C_up (g := g) (e := e) hx (b + 1)
  unfold cw_h2
  by_cases h0 : g x = 0
  · rw [if_pos h0, cw_h1_v hh hb]
    rw [if_neg (show ¬ g x = b + 1 by omega)] at key
    exact congrArg nI (by omega)
  · rw [if_neg h0]
    by_cases hb1 : b = g x - 1
    · rw [if_pos (show g x = b + 1 by omega)] at key
      rw [← hb1, pk_us, cw_h1_v hh hb, ← key, nI_pred]
    · rw [pk_un hb1, cw_h1_v hh hb]
      rw [if_neg (show ¬ g x = b + 1 by omega)] at key
      exact congrArg nI (by omega)
theorem cw_bk_up {g : Nat → Nat} {x e : Nat} (he : e ≤ 80) (hb : cw_BK g bk) : cw_BK (cw_up g x e) (upd bk x (nI e - 1)) := by
  intro y hy
  by_cases h : y = x
  · subst h
    rw [cw_up_s, pk_us]
    exact ⟨he, rfl⟩
  · rw [cw_up_n h, pk_un h]
    exact hb y hy
/-- what a put answers -/
def cw_pr (g : Nat → Nat) (x e : Nat) : Nat := if ¬ g x = 0 ∧ cw_C (cw_up g x e) (g x) = 0 then 1 else 0
theorem cx_put {g : Nat → Nat} {v p e : Nat} (hv : v < 6) (hp : p < 64) (he : e ≤ 80) (hb : cw_BK g bk) (hh : cw_HC g hc) :
    ∃ bk' hc', cw_BK (cw_up g (64 * v + p) e) bk' ∧ cw_HC (cw_up g (64 * v + p) e) hc' ∧ ∀ P : Int32 → SX → Prop, P (nI (cw_pr g (64 * v + p) e)) (fs, fh, fl, th, wr, bk', hc', va, go, lo, sp, sv, sh, sd) → wpX_putBlock P (fs, fh, fl, th, wr, bk, hc, va, go, lo, sp, sv, sh, sd) (nI v) (nI p) (nI e - 1) := by
  have hx : 64 * v + p < 384 := by omega
  obtain ⟨hg, hbk⟩ := hb _ hx
  have hh' := cw_h12 (e := e) hx hg hh
  refine ⟨upd bk (64 * v + p) (nI e - 1), cw_h2 (cw_h1 hc e) (g (64 * v + p)), cw_bk_up he hb, hh', fun P hP => ?_⟩
  have hr : (if ¬ g (64 * v + p) = 0 ∧ cw_h1 hc e (g (64 * v + p) - 1) - 1 = 0 then (1 : Int32) else 0) = nI (cw_pr g (64 * v + p) e) := by
    unfold cw_pr
    by_cases h0 : g (64 * v + p) = 0
    · rw [if_neg (fun z => z.1 h0), if_neg (fun z => z.1 h0)]
      rfl
    · have h1 := hh' (g (64 * v + p) - 1) (by omega)
      unfold cw_h2 at h1
      rw [if_neg h0, pk_us, show g (64 * v + p) - 1 + 1 = g (64 * v + p) by omega] at h1
      have hl := cw_C_le (cw_up g (64 * v + p) e) (g (64 * v + p))
      by_cases hz : cw_C (cw_up g (64 * v + p) e) (g (64 * v + p)) = 0
      · rw [if_pos ⟨h0, by rw [h1, hz]; rfl⟩, if_pos ⟨h0, hz⟩]
        rfl
      · rw [if_neg (fun z => hz ((cw_z0 (by omega)).mp (h1.symm.trans z.2))), if_neg (fun z => hz z.2)]
        rfl
  have hP2 : P (if ¬ g (64 * v + p) = 0 ∧ cw_h1 hc e (g (64 * v + p) - 1) - 1 = 0 then (1 : Int32) else 0) (fs, fh, fl, th, wr, upd bk (64 * v + p) (nI e - 1), cw_h2 (cw_h1 hc e) (g (64 * v + p)), va, go, lo, sp, sv, sh, sd) := by
    rw [hr]
    exact hP
  have h28 := cx_put28 (hc := cw_h1 hc e) (bk := bk) (e := nI e - 1) hx hg hP2
  unfold wpX_putBlock
  dsimp only
  rw [cw_ix1, cw_cl (by omega), hbk]
  refine ⟨cw_in hx (by decide), nm_e ?_⟩
  by_cases h0 : e = 0
  · subst h0
    exact br_t cw_em1 h28
  · unfold cw_h1 at h28
    rw [if_neg h0] at h28
    have hi : vp_in (nI (e - 1)) 80 := cw_in (by omega) (by decide)
    rw [cw_s1 (by omega)] at h28 ⊢
    rw [cw_cl (by omega)]
    exact br_f (cw_en1 _ (by omega)) ⟨hi, hi, nm_e h28⟩
theorem cy_t23 {g : Nat → Nat} (h : cw_HA th g ha) (hg : ∀ x, x < 384 → g x ≤ 80) : ∀ (d j : Nat) (he : Nat → Int32), j + d = 384 → (∀ b, b < 80 → he (b + 1) = nI (cw_sum (fun x => if g x = b + 1 then 1 else 0) j)) →
    ∃ he', cw_HE g he' ∧ ∀ P : SY → Prop, P (fs, fh, fl, th, fr, ha, be, va, ba, lo, sV, he', sp, sh) → wY_tally_23 P fs fh fl (d + 1) (nI j) th fr ha be va ba lo sV he sp sh := by
  intro d
  induction d with
  | zero =>
    intro j he hj hi
    obtain rfl : j = 384 := by omega
    exact ⟨he, hi, fun P hP => br_t (show (384 : Int32) ≤ nI 384 by decide) hP⟩
  | succ d ih =>
    intro j he hj hi
    have hd : nI j / 64 = nI (j / 64) := pk_div (d := 64) (by omega) (by omega) (by omega)
    have hn : ¬ (384 : Int32) ≤ nI j := nI_ge (b := 384) (by omega) (by decide)
    have hin : vp_in (nI (j / 64)) 6 := cw_in (by omega) (by decide)
    by_cases ht : th (j / 64) = 0
    · have g0 := (h j (by omega)).1 ht
      obtain ⟨he', hE, hT⟩ := ih (j + 1) he (by omega) (fun b hb => by rw [hi b hb]; show _ = nI (_ + _); dsimp only; rw [if_neg (show ¬ g j = b + 1 by omega)]; rfl)
      refine ⟨he', hE, fun P hP => ?_⟩
      unfold wY_tally_23
      rw [hd, cw_cl (n := j / 64) (by omega)]
      exact br_f hn ⟨by decide, hin, br_t ht (nm_r (nI_1 j) (hT P hP))⟩
    · have ga := (h j (by omega)).2 ht
      have g80 := hg j (by omega)
      obtain ⟨he', hE, hT⟩ := ih (j + 1) (upd he (g j) (vp_nar .short ((he (g j) + 1).toInt16.toInt32))) (by omega) (fun b hb => by
        show _ = nI (_ + _)
        dsimp only
        by_cases e : g j = b + 1
        · have hs := cw_sum_le (f := fun x => if g x = b + 1 then 1 else 0) (M := 1) (fun x => cw_i1 _ _) j
          rw [if_pos e, e, pk_us, hi b hb, cw_sh2 (by omega)]
        · rw [if_neg e, pk_un (fun z => e z.symm), hi b hb]; rfl)
      refine ⟨he', hE, fun P hP => ?_⟩
      unfold wY_tally_23
      rw [hd, cw_cl (n := j / 64) (by omega), cw_cl (n := j) (by omega), ga, cw_cl (n := g j) (by omega)]
      have hi81 : vp_in (nI (g j)) 81 := cw_in (by omega) (by decide)
      exact br_f hn ⟨by decide, hin, br_f ht ⟨cw_in (by omega) (by decide), hi81, hi81, nm_e (nm_r (nI_1 j) (hT P hP))⟩⟩
theorem cy_t2 {g : Nat → Nat} (h : cw_HA th g ha) (hg : ∀ x, x < 384 → g x ≤ 80) : ∀ (d j : Nat) (he : Nat → Int32), j + d = 81 → (∀ b, b < j → he b = 0) →
    ∃ he', cw_HE g he' ∧ ∀ P : SY → Prop, P (fs, fh, fl, th, fr, ha, be, va, ba, lo, sV, he', sp, sh) → wY_tally_2 P fs fh fl (d + 1) (nI j) th fr ha be va ba lo sV he sp sh := by
  intro d
  induction d with
  | zero =>
    intro j he hj hi
    obtain rfl : j = 81 := by omega
    obtain ⟨he', hE, hT⟩ := cy_t23 (fs := fs) (fh := fh) (fl := fl) (fr := fr) (be := be) (va := va) (ba := ba) (lo := lo) (sV := sV) (sp := sp) (sh := sh) h hg 384 0 he rfl (fun b hb => hi (b + 1) (by omega))
    exact ⟨he', hE, fun P hP => br_t (show (81 : Int32) ≤ nI 81 by decide) ⟨385, hT P hP⟩⟩
  | succ d ih =>
    intro j he hj hi
    obtain ⟨he', hE, hT⟩ := ih (j + 1) (upd he j (vp_nar .short 0)) (by omega) (fun b hb => by
      by_cases e : b = j
      · rw [e, pk_us]; exact cw_sh0
      · rw [pk_un e]; exact hi b (by omega))
    refine ⟨he', hE, fun P hP => ?_⟩
    unfold wY_tally_2
    rw [cw_cl (n := j) (by omega)]
    exact br_f (nI_ge (b := 81) (by omega) (by decide)) ⟨cw_in (by omega) (by decide), nm_e (nm_r (nI_1 j) (hT P hP))⟩
theorem cy_tally {g : Nat → Nat} (h : cw_HA th g ha) (hg : ∀ x, x < 384 → g x ≤ 80) : ∃ he', cw_HE g he' ∧ ∀ P : SY → Prop, P (fs, fh, fl, th, fr, ha, be, va, ba, lo, sV, he', sp, sh) → wpY_tally P (fs, fh, fl, th, fr, ha, be, va, ba, lo, sV, he, sp, sh) := by
  obtain ⟨he', hE, hT⟩ := cy_t2 (fs := fs) (fh := fh) (fl := fl) (fr := fr) (be := be) (va := va) (ba := ba) (lo := lo) (sV := sV) (sp := sp) (sh := sh) h hg 81 0 he rfl (fun b hb => absurd hb (Nat.not_lt_zero b))
  exact ⟨he', hE, fun P hP => ⟨82, hT P hP⟩⟩
theorem cj_least2 : ∀ d j : Nat, j + d = 6 →
    (∃ v, v < 6 ∧ th v = 0 ∧ (∀ P : Int32 → Prop, P (nI v) → wX_leastAbsentVolume_2 P fs fh fl th wr bk hc va go lo sp sv sh sd (d + 1) (nI j)) ∧ (∀ P : Int32 → Prop, P (nI v) → wY_least_2 P fs fh fl th fr ha be va ba lo sV he sp sh (d + 1) (nI j))) ∨
    ((∀ P : Int32 → Prop, P (-1) → wX_leastAbsentVolume_2 P fs fh fl th wr bk hc va go lo sp sv sh sd (d + 1) (nI j)) ∧ (∀ P : Int32 → Prop, P (-2) → wY_least_2 P fs fh fl th fr ha be va ba lo sV he sp sh (d + 1) (nI j))) := by
  intro d
  induction d with
  | zero =>
    intro j hj
    obtain rfl : j = 6 := by omega
    have h : (6 : Int32) ≤ nI 6 := by decide
    exact Or.inr ⟨fun P hP => br_t h hP, fun P hP => br_t h hP⟩
  | succ d ih =>
    intro j hj
    have h : ¬ (6 : Int32) ≤ nI j := nI_ge (b := 6) (by omega) (by decide)
    have hi : vp_in (nI j) 6 := cw_in (by omega) (by decide)
    have hcl : (nI j).toNatClampNeg = j := cw_cl (by omega)
    by_cases z : th j = 0
    · have z' : th (nI j).toNatClampNeg = 0 := by rw [hcl]; exact z
      exact Or.inl ⟨j, by omega, z, fun P hP => br_f h ⟨hi, br_t z' hP⟩, fun P hP => br_f h ⟨hi, br_t z' hP⟩⟩
    · have z' : ¬ th (nI j).toNatClampNeg = 0 := by rw [hcl]; exact z
      rcases ih (j + 1) (by omega) with ⟨v, hv, ht, hX, hY⟩ | ⟨hX, hY⟩
      · exact Or.inl ⟨v, hv, ht, fun P hP => br_f h ⟨hi, br_f z' (nm_r (nI_1 j) (hX P hP))⟩, fun P hP => br_f h ⟨hi, br_f z' (nm_r (nI_1 j) (hY P hP))⟩⟩
      · exact Or.inr ⟨fun P hP => br_f h ⟨hi, br_f z' (nm_r (nI_1 j) (hX P hP))⟩, fun P hP => br_f h ⟨hi, br_f z' (nm_r (nI_1 j) (hY P hP))⟩⟩
theorem cj_least : (∃ v, v < 6 ∧ th v = 0 ∧ (∀ P : Int32 → Prop, P (nI v) → wpX_leastAbsentVolume P (fs, fh, fl, th, wr, bk, hc, va, go, lo, sp, sv, sh, sd)) ∧ (∀ P : Int32 → Prop, P (nI v) → wpY_least P (fs, fh, fl, th, fr, ha, be, va, ba, lo, sV, he, sp, sh))) ∨
    ((∀ P : Int32 → Prop, P (-1) → wpX_leastAbsentVolume P (fs, fh, fl, th, wr, bk, hc, va, go, lo, sp, sv, sh, sd)) ∧ (∀ P : Int32 → Prop, P (-2) → wpY_least P (fs, fh, fl, th, fr, ha, be, va, ba, lo, sV, he, sp, sh))) := by
  rcases cj_least2 (fs := fs) (fh := fh) (fl := fl) (th := th) (wr := wr) (bk := bk) (hc := hc) (va := va) (go := go) (lo := lo) (sp := sp) (sv := sv) (sh := sh) (sd := sd) (fr := fr) (ha := ha) (be := be) (ba := ba) (sV := sV) (he := he) 6 0 rfl with ⟨v, hv, ht, hX, hY⟩ | ⟨hX, hY⟩
  · exact Or.inl ⟨v, hv, ht, fun P hP => ⟨7, hX P hP⟩, fun P hP => ⟨7, hY P hP⟩⟩
  · exact Or.inr ⟨fun P hP => ⟨7, hX P hP⟩, fun P hP => ⟨7, hY P hP⟩⟩
theorem cj_free2 {g : Nat → Nat} (hh : cw_HC g hc) (hE : cw_HE g he) : ∀ d j : Nat, j + d = 80 →
    (∃ b, b < 80 ∧ cw_C g (b + 1) = 0 ∧ (∀ P : Int32 → Prop, P (nI b) → wX_leastFreeBlock_2 P fs fh fl th wr bk hc va go lo sp sv sh sd (d + 1) (nI j)) ∧ (∀ P : Int32 → SY → Prop, P (nI b) (fs, fh, fl, th, fr, ha, be, va, ba, lo, sV, he, sp, sh) → wY_free_6 P fs fh fl th fr ha be va ba lo sV he sp sh (d + 1) (nI j))) ∨
    ((∀ P : Int32 → Prop, P (-2) → wX_leastFreeBlock_2 P fs fh fl th wr bk hc va go lo sp sv sh sd (d + 1) (nI j)) ∧ (∀ P : Int32 → SY → Prop, P (-1) (fs, fh, fl, th, fr, ha, be, va, ba, lo, sV, he, sp, sh) → wY_free_6 P fs fh fl th fr ha be va ba lo sV he sp sh (d + 1) (nI j))) := by
  intro d
  induction d with
  | zero =>
    intro j hj
    obtain rfl : j = 80 := by omega
    have h : (80 : Int32) ≤ nI 80 := by decide
    exact Or.inr ⟨fun P hP => br_t h hP, fun P hP => br_t h hP⟩
  | succ d ih =>
    intro j hj
    have h : ¬ (80 : Int32) ≤ nI j := nI_ge (b := 80) (by omega) (by decide)
    have hi : vp_in (nI j) 80 := cw_in (by omega) (by decide)
    have hi1 : vp_in (nI j + 1) 81 := by rw [nI_1]; exact cw_in (by omega) (by decide)
    have eX : hc (nI j).toNatClampNeg = nI (cw_C g (j + 1)) := by rw [cw_cl (by omega)]; exact hh j (by omega)
    have eY : he (nI j + 1).toNatClampNeg = nI (cw_C g (j + 1)) := by rw [nI_1, cw_cl (by omega)]; exact hE j (by omega)
    have hl := cw_C_le g (j + 1)
    have hz : nI (cw_C g (j + 1)) = 0 ↔ cw_C g (j + 1) = 0 := cw_z0 (by omega)
    by_cases z : cw_C g (j + 1) = 0
    · exact Or.inl ⟨j, by omega, z, fun P hP => br_f h ⟨hi, br_t (eX.trans (hz.mpr z)) hP⟩, fun P hP => br_f h ⟨hi1, br_t (eY.trans (hz.mpr z)) hP⟩⟩
    · have zX : ¬ hc (nI j).toNatClampNeg = 0 := fun q => z (hz.mp (eX.symm.trans q))
      have zY : ¬ he (nI j + 1).toNatClampNeg = 0 := fun q => z (hz.mp (eY.symm.trans q))
      rcases ih (j + 1) (by omega) with ⟨v, hv, ht, hX, hY⟩ | ⟨hX, hY⟩
      · exact Or.inl ⟨v, hv, ht, fun P hP => br_f h ⟨hi, br_f zX (nm_r (nI_1 j) (hX P hP))⟩, fun P hP => br_f h ⟨hi1, br_f zY (nm_r (nI_1 j) (hY P hP))⟩⟩
      · exact Or.inr ⟨fun P hP => br_f h ⟨hi, br_f zX (nm_r (nI_1 j) (hX P hP))⟩, fun P hP => br_f h ⟨hi1, br_f zY (nm_r (nI_1 j) (hY P hP))⟩⟩
end
end
section
section
variable {fs fh fl : Int32} {th wr bk hc va go lo sp sv sh sd fr ha be ba sV he : Nat → Int32}
theorem cx_l34_t {b d i h : Nat} (hb : b < 80) (hd : d < 2) (hi : 80 * d + b = i) (hh : h < 1000000) (hl : lo d = 0) {P : Int32 → SX → Prop} (hP : P 1 (fs, nI ((h + 1) % 1000000), fl, th, wr, bk, hc, va, upd go i 1, lo, sp, sv, sh, sd)) : wX_lookAt_34 P (nI b) (nI d) fs (nI h) fl th wr bk hc va go lo sp sv sh sd := by
  unfold wX_lookAt_34
  rw [cw_ix3, hi, cw_cl (n := d) (by omega), cw_cl (n := i) (by omega), cw_b1]
  refine ⟨cw_in hd (by decide), br_t hl ⟨cw_in (by omega) (by decide), nm_e ⟨by decide, nm_r ?_ hP⟩⟩⟩
  rw [nI_1]
  exact pk_rem (a := h + 1) (d := 1000000) (by omega) (by decide) (by decide)
theorem cx_l34_f {b d : Nat} (hd : d < 2) (hl : ¬ lo d = 0) {P : Int32 → SX → Prop} (hP : P 0 (fs, fh, fl, th, wr, bk, hc, va, go, lo, sp, sv, sh, sd)) : wX_lookAt_34 P (nI b) (nI d) fs fh fl th wr bk hc va go lo sp sv sh sd := by
  unfold wX_lookAt_34
  rw [cw_cl (n := d) (by omega)]
  exact ⟨cw_in hd (by decide), br_f hl hP⟩
theorem cx_look_e {b : Nat} (hb : b < 80) (h : go b = go (80 + b)) {P : Int32 → SX → Prop} (hP : P 0 (fs, fh, fl, th, wr, bk, hc, va, go, lo, sp, sv, sh, sd)) : wpX_lookAt P (fs, fh, fl, th, wr, bk, hc, va, go, lo, sp, sv, sh, sd) (nI b) := by
  unfold wpX_lookAt
  dsimp only
  rw [cw_ix5, cw_cl (n := b) (by omega), cw_cl (n := 80 + b) (by omega)]
  exact ⟨cw_in (by omega) (by decide), cw_in (by omega) (by decide), br_t h hP⟩
theorem cx_look_0 {b : Nat} (hb : b < 80) (h0 : go b = 0) (h1 : go (80 + b) = 1) {P : Int32 → SX → Prop} (hP : wX_lookAt_34 P (nI b) (nI 0) fs fh fl th wr bk hc va go lo sp sv sh sd) : wpX_lookAt P (fs, fh, fl, th, wr, bk, hc, va, go, lo, sp, sv, sh, sd) (nI b) := by
  unfold wpX_lookAt
  dsimp only
  rw [cw_ix5, cw_cl (n := b) (by omega), cw_cl (n := 80 + b) (by omega)]
  exact ⟨cw_in (by omega) (by decide), cw_in (by omega) (by decide), br_f (by rw [h0, h1]; decide) ⟨cw_in (by omega) (by decide), br_t h0 hP⟩⟩
theorem cx_look_1 {b : Nat} (hb : b < 80) (h0 : go b = 1) (h1 : go (80 + b) = 0) {P : Int32 → SX → Prop} (hP : wX_lookAt_34 P (nI b) (nI 1) fs fh fl th wr bk hc va go lo sp sv sh sd) : wpX_lookAt P (fs, fh, fl, th, wr, bk, hc, va, go, lo, sp, sv, sh, sd) (nI b) := by
  unfold wpX_lookAt
  dsimp only
  rw [cw_ix5, cw_cl (n := b) (by omega), cw_cl (n := 80 + b) (by omega)]
  exact ⟨cw_in (by omega) (by decide), cw_in (by omega) (by decide), br_f (by rw [h0, h1]; decide) ⟨cw_in (by omega) (by decide), br_f (by rw [h0]; decide) hP⟩⟩
theorem cy_l_end {b h n : Nat} (hb : b < 80) (hh : h ≤ 1000000) {P : Int64 → SY → Prop} (hP : P (va b).toInt64 (fs, nI (h % 1000000), fl, th, fr, ha, be, va, ba, lo, sV, he, sp, sh)) : wY_look_27 P (nI b) fs fl (n + 1) (nI 2) (nI h) th fr ha be va ba lo sV he sp sh := by
  unfold wY_look_27
  rw [cw_cl (n := b) (by omega)]
  refine br_t (by decide) ?_
  refine pk_le h 999999 (fun h1 => ⟨cw_in hb (by decide), ?_⟩) (fun h1 => nm_r (e' := nI (h % 1000000)) ?_ ⟨cw_in hb (by decide), hP⟩)
  · rw [Nat.mod_eq_of_lt (by omega)] at hP
    exact hP
  · obtain rfl : h = 1000000 := by omega
    decide
theorem cy_l_0 {b d i h n : Nat} (hb : b < 80) (hd : d < 2) (hi : 80 * d + b = i) (hz : ba i = 0) {P : Int64 → SY → Prop} (hW : wY_look_27 P (nI b) fs fl n (nI (d + 1)) (nI h) th fr ha be va ba lo sV he sp sh) : wY_look_27 P (nI b) fs fl (n + 1) (nI d) (nI h) th fr ha be va ba lo sV he sp sh := by
  unfold wY_look_27
  rw [cw_ix4, hi, cw_cl (n := i) (by omega)]
  exact br_f (nI_ge (b := 2) hd (by decide)) ⟨cw_in (by omega) (by decide), br_t hz (nm_r (nI_1 d) hW)⟩
theorem cy_l_1 {b d i h n : Nat} (hb : b < 80) (hd : d < 2) (hi : 80 * d + b = i) (hz : ¬ ba i = 0) (hl : lo d = 0) {P : Int64 → SY → Prop} (hW : wY_look_27 P (nI b) fs fl n (nI (d + 1)) (nI (h + 1)) th fr ha be va (upd ba i 0) lo sV he sp sh) : wY_look_27 P (nI b) fs fl (n + 1) (nI d) (nI h) th fr ha be va ba lo sV he sp sh := by
  unfold wY_look_27
  rw [cw_ix4, hi, cw_cl (n := i) (by omega), cw_cl (n := d) (by omega), cw_b0]
  exact br_f (nI_ge (b := 2) hd (by decide)) ⟨cw_in (by omega) (by decide), br_f hz ⟨cw_in hd (by decide), br_t hl ⟨cw_in (by omega) (by decide), nm_e (nm_r (nI_1 h) (nm_r (nI_1 d) hW))⟩⟩⟩
theorem cy_l_2 {b d i h n : Nat} (hb : b < 80) (hd : d < 2) (hi : 80 * d + b = i) (hz : ¬ ba i = 0) (hl : ¬ lo d = 0) {P : Int64 → SY → Prop} (hW : wY_look_27 P (nI b) fs fl n (nI (d + 1)) (nI h) th fr ha be va ba lo sV he sp sh) : wY_look_27 P (nI b) fs fl (n + 1) (nI d) (nI h) th fr ha be va ba lo sV he sp sh := by
  unfold wY_look_27
  rw [cw_ix4, hi, cw_cl (n := i) (by omega), cw_cl (n := d) (by omega)]
  exact br_f (nI_ge (b := 2) hd (by decide)) ⟨cw_in (by omega) (by decide), br_f hz ⟨cw_in hd (by decide), br_f hl (nm_r (nI_1 d) hW)⟩⟩
theorem cy_look_b {b : Nat} (hb : b < 80) (h0 : ¬ ba b = 0) (h1 : ¬ ba (80 + b) = 0) {P : Int64 → SY → Prop} (hP : P 1000000000001 (fs, fh, fl, th, fr, ha, be, va, ba, lo, sV, he, sp, sh)) : wpY_look P (fs, fh, fl, th, fr, ha, be, va, ba, lo, sV, he, sp, sh) (nI b) := by
  unfold wpY_look
  dsimp only
  rw [cw_ix5, cw_cl (n := b) (by omega), cw_cl (n := 80 + b) (by omega)]
  exact ⟨cw_in (by omega) (by decide), br_f h0 ⟨cw_in (by omega) (by decide), br_f h1 hP⟩⟩
theorem cy_look_n {b : Nat} (hb : b < 80) (h01 : ba b = 0 ∨ ba (80 + b) = 0) {P : Int64 → SY → Prop} (hP : wY_look_27 P (nI b) fs fl 3 (nI 0) fh th fr ha be va ba lo sV he sp sh) : wpY_look P (fs, fh, fl, th, fr, ha, be, va, ba, lo, sV, he, sp, sh) (nI b) := by
  unfold wpY_look
  dsimp only
  rw [cw_ix5, cw_cl (n := b) (by omega), cw_cl (n := 80 + b) (by omega)]
  refine ⟨cw_in (by omega) (by decide), br_c (fun _ => ⟨3, hP⟩) (fun z => ⟨cw_in (by omega) (by decide), ?_⟩)⟩
  rcases h01 with h | h
  · exact absurd h z
  · exact br_t h ⟨3, hP⟩
def cw_scr (lo ba : Nat → Int32) (b : Nat) : Nat := if lo (if ba b = 0 then 1 else 0) = 0 then 1 else 0
theorem cj_look {b h : Nat} (hb : b < 80) (hh : h < 1000000) (G0 : cw_G (go b) (ba b)) (G1 : cw_G (go (80 + b)) (ba (80 + b))) :
    ∃ (r h' : Nat) (go' ba' : Nat → Int32) (y : Int64), h' < 1000000 ∧ (∀ i, i ≠ b → i ≠ 80 + b → go' i = go i ∧ ba' i = ba i) ∧ cw_G (go' b) (ba' b) ∧ cw_G (go' (80 + b)) (ba' (80 + b)) ∧
      ((go' b = 0 ∧ go' (80 + b) = 0 ∧ y = 1000000000001) ∨ (¬ (go' b = 0 ∧ go' (80 + b) = 0) ∧ y = (va b).toInt64)) ∧
      ((ba b = ba (80 + b) ∧ r = 0 ∧ h' = h ∧ go' = go ∧ ba' = ba) ∨ (¬ ba b = ba (80 + b) ∧ r = cw_scr lo ba b)) ∧
      (∀ P : Int32 → SX → Prop, P (nI r) (fs, nI h', fl, th, wr, bk, hc, va, go', lo, sp, sv, sh, sd) → wpX_lookAt P (fs, nI h, fl, th, wr, bk, hc, va, go, lo, sp, sv, sh, sd) (nI b)) ∧
      (∀ P : Int64 → SY → Prop, P y (fs, nI h', fl, th, fr, ha, be, va, ba', lo, sV, he, sp, sh) → wpY_look P (fs, nI h, fl, th, fr, ha, be, va, ba, lo, sV, he, sp, sh) (nI b)) := by
  have hm : h % 1000000 = h := Nat.mod_eq_of_lt hh
  have hm1 : (h + 1) % 1000000 < 1000000 := Nat.mod_lt _ (by decide)
  have i0 : 80 * 0 + b = b := by omega
  have i1 : 80 * 1 + b = 80 + b := by omega
  have hne : b ≠ 80 + b := by omega
  have n01 : ¬ (0 : Int32) = 1 := by decide
  have n10 : ¬ (1 : Int32) = 0 := by decide
  rcases G0 with ⟨g0, b0⟩ | ⟨g0, b0⟩ <;> rcases G1 with ⟨g1, b1⟩ | ⟨g1, b1⟩
  · refine ⟨0, h, go, ba, 1000000000001, hh, fun _ _ _ => ⟨rfl, rfl⟩, Or.inl ⟨g0, b0⟩, Or.inl ⟨g1, b1⟩, Or.inl ⟨g0, g1, rfl⟩, Or.inl ⟨b0.trans b1.symm, rfl, rfl, rfl, rfl⟩, fun P hP => ?_, fun P hP => ?_⟩
    · exact cx_look_e hb (g0.trans g1.symm) hP
    · exact cy_look_b hb (by rw [b0]; exact n10) (by rw [b1]; exact n10) hP
  · have hb01 : ¬ ba b = ba (80 + b) := by rw [b0, b1]; exact n10
    have hq : ¬ ba b = 0 := by rw [b0]; exact n10
    by_cases hl : lo 0 = 0
    · have hs : cw_scr lo ba b = 1 := by unfold cw_scr; rw [if_neg hq, if_pos hl]
      have u1 : upd ba b 0 (80 + b) = 0 := by rw [pk_un hne.symm]; exact b1
      refine ⟨1, (h + 1) % 1000000, upd go b 1, upd ba b 0, (va b).toInt64, hm1, fun i hi _ => ⟨pk_un hi, pk_un hi⟩, Or.inr ⟨pk_us, pk_us⟩, Or.inr ⟨?_, u1⟩, Or.inr ⟨?_, rfl⟩, Or.inr ⟨hb01, hs.symm⟩, fun P hP => ?_, fun P hP => ?_⟩
      · rw [pk_un hne.symm]; exact g1
      · rw [pk_us]; exact fun z => n10 z.1
      · exact cx_look_0 hb g0 g1 (cx_l34_t hb (by decide) i0 hh hl hP)
      · exact cy_look_n hb (Or.inr b1) (cy_l_1 hb (by decide) i0 hq hl (cy_l_0 hb (by decide) i1 u1 (cy_l_end hb (by omega) hP)))
    · have hs : cw_scr lo ba b = 0 := by unfold cw_scr; rw [if_neg hq, if_neg hl]
      refine ⟨0, h, go, ba, (va b).toInt64, hh, fun _ _ _ => ⟨rfl, rfl⟩, Or.inl ⟨g0, b0⟩, Or.inr ⟨g1, b1⟩, Or.inr ⟨?_, rfl⟩, Or.inr ⟨hb01, hs.symm⟩, fun P hP => ?_, fun P hP => ?_⟩
      · rw [g1]; exact fun z => n10 z.2
      · exact cx_look_0 hb g0 g1 (cx_l34_f (by decide) hl hP)
      · exact cy_look_n hb (Or.inr b1) (cy_l_2 hb (by decide) i0 hq hl (cy_l_0 hb (by decide) i1 b1 (cy_l_end hb (by omega) (by rw [hm]; exact hP))))
  · have hb01 : ¬ ba b = ba (80 + b) := by rw [b0, b1]; exact n01
    have hq : ¬ ba (80 + b) = 0 := by rw [b1]; exact n10
    by_cases hl : lo 1 = 0
    · have hs : cw_scr lo ba b = 1 := by unfold cw_scr; rw [if_pos b0, if_pos hl]
      refine ⟨1, (h + 1) % 1000000, upd go (80 + b) 1, upd ba (80 + b) 0, (va b).toInt64, hm1, fun i _ hi => ⟨pk_un hi, pk_un hi⟩, Or.inr ⟨?_, ?_⟩, Or.inr ⟨pk_us, pk_us⟩, Or.inr ⟨?_, rfl⟩, Or.inr ⟨hb01, hs.symm⟩, fun P hP => ?_, fun P hP => ?_⟩
      · rw [pk_un hne]; exact g0
      · rw [pk_un hne]; exact b0
      · rw [pk_us]; exact fun z => n10 z.2
      · exact cx_look_1 hb g0 g1 (cx_l34_t hb (by decide) i1 hh hl hP)
      · exact cy_look_n hb (Or.inl b0) (cy_l_0 hb (by decide) i0 b0 (cy_l_1 hb (by decide) i1 hq hl (cy_l_end hb (by omega) hP)))
    · have hs : cw_scr lo ba b = 0 := by unfold cw_scr; rw [if_pos b0, if_neg hl]
      refine ⟨0, h, go, ba, (va b).toInt64, hh, fun _ _ _ => ⟨rfl, rfl⟩, Or.inr ⟨g0, b0⟩, Or.inl ⟨g1, b1⟩, Or.inr ⟨?_, rfl⟩, Or.inr ⟨hb01, hs.symm⟩, fun P hP => ?_, fun P hP => ?_⟩
      · rw [g0]; exact fun z => n10 z.1
      · exact cx_look_1 hb g0 g1 (cx_l34_f (by decide) hl hP)
      · exact cy_look_n hb (Or.inl b0) (cy_l_0 hb (by decide) i0 b0 (cy_l_2 hb (by decide) i1 hq hl (cy_l_end hb (by omega) (by rw [hm]; exact hP))))
  · refine ⟨0, h, go, ba, (va b).toInt64, hh, fun _ _ _ => ⟨rfl, rfl⟩, Or.inr ⟨g0, b0⟩, Or.inr ⟨g1, b1⟩, Or.inr ⟨?_, rfl⟩, Or.inl ⟨b0.trans b1.symm, rfl, rfl, rfl, rfl⟩, fun P hP => ?_, fun P hP => ?_⟩
    · rw [g0]; exact fun z => n10 z.1
    · exact cx_look_e hb (g0.trans g1.symm) hP
    · exact cy_look_n hb (Or.inl b0) (cy_l_0 hb (by decide) i0 b0 (cy_l_0 hb (by decide) i1 b1 (cy_l_end hb (by omega) (by rw [hm]; exact hP))))
theorem cx_broken_t {b : Nat} (hb : b < 80) (h0 : go b = 0) (h1 : go (80 + b) = 0) {P : Int32 → Prop} (hP : P 1) : wpX_isBroken P (fs, fh, fl, th, wr, bk, hc, va, go, lo, sp, sv, sh, sd) (nI b) := by
  unfold wpX_isBroken
  dsimp only
  rw [cw_ix5, cw_cl (n := b) (by omega), cw_cl (n := 80 + b) (by omega)]
  exact ⟨cw_in (by omega) (by decide), br_t h0 ⟨cw_in (by omega) (by decide), br_t h1 hP⟩⟩
theorem cx_broken_f {b : Nat} (hb : b < 80) (h : ¬ (go b = 0 ∧ go (80 + b) = 0)) {P : Int32 → Prop} (hP : P 0) : wpX_isBroken P (fs, fh, fl, th, wr, bk, hc, va, go, lo, sp, sv, sh, sd) (nI b) := by
  unfold wpX_isBroken
  dsimp only
  rw [cw_ix5, cw_cl (n := b) (by omega), cw_cl (n := 80 + b) (by omega)]
  exact ⟨cw_in (by omega) (by decide), br_c (fun z => ⟨cw_in (by omega) (by decide), br_f (fun z2 => h ⟨z, z2⟩) hP⟩) (fun _ => hP)⟩
/-- a look at one block keeps the copies in step -/
theorem cw_RG_look {g : Nat → Nat} {b : Nat} {go' ba' : Nat → Int32} (hb : b < 80) (hR : cw_RG g go ba) (hn : ∀ i, i ≠ b → i ≠ 80 + b → go' i = go i ∧ ba' i = ba i) (G0 : cw_G (go' b) (ba' b)) (G1 : cw_G (go' (80 + b)) (ba' (80 + b))) : cw_RG g go' ba' := by
  intro c hc hu
  by_cases e : c = b
  · subst e
    exact ⟨G0, G1⟩
  · obtain ⟨h1, h2⟩ := hn c e (by omega)
    obtain ⟨h3, h4⟩ := hn (80 + c) (by omega) (by omega)
    rw [h1, h2, h3, h4]
    exact hR c hc hu
end
end
section
def cw_K (g : Nat → Nat) (s h l : Nat) (th wr bk hc go lo sp sv sh fr ha ba sV : Nat → Int32) : Prop :=
  s < 80 ∧ h < 1000000 ∧ l ≤ 64 ∧ cw_WF th wr fr ∧ cw_BK g bk ∧ cw_HC g hc ∧ cw_HA th g ha ∧ cw_RG g go ba ∧ (∀ d, d < 2 → lo d = 0 ∨ lo d = 1) ∧ (∀ k, ∃ p, p < 64 ∧ sp k = nI p) ∧ (∀ k, ¬ sh k = 0 → sv k = sV k)
/-- the two stores hold the same: g names what stands at each place (0: nothing, b + 1: block b; nothing where no volume is), counts are counts of g, copies of used blocks agree -/
def i_Rel (k : Nat) (u : SX) (v : SY) : Prop :=
  ∃ (g : Nat → Nat) (s h l : Nat) (th wr bk hc va go lo sp sv sh sd fr ha be ba sV he : Nat → Int32), u = (nI s, nI h, nI l, th, wr, bk, hc, va, go, lo, sp, sv, sh, sd) ∧ v = (nI s, nI h, nI l, th, fr, ha, be, va, ba, lo, sV, he, sp, sh) ∧ cw_K g s h l th wr bk hc go lo sp sv sh fr ha ba sV
theorem i_up {k : Nat} {u : SX} {v : SY} (h : i_Rel k u v) : i_Rel (k + 6) u v := h
section
variable {fs fh fl : Int32} {th wr bk hc va go lo sp sv sh sd fr ha be ba sV he : Nat → Int32}
theorem cw_mk {k : Nat} {g : Nat → Nat} {s h l : Nat} (K : cw_K g s h l th wr bk hc go lo sp sv sh fr ha ba sV) : i_Rel k (nI s, nI h, nI l, th, wr, bk, hc, va, go, lo, sp, sv, sh, sd) (nI s, nI h, nI l, th, fr, ha, be, va, ba, lo, sV, he, sp, sh) :=
  ⟨g, s, h, l, th, wr, bk, hc, va, go, lo, sp, sv, sh, sd, fr, ha, be, ba, sV, he, rfl, rfl, K⟩
theorem cw_g80 {g : Nat → Nat} (hb : cw_BK g bk) : ∀ x, x < 384 → g x ≤ 80 := fun x hx => (hb x hx).1
theorem cx_init {P : SX → Prop} (hP : ∀ bk', (∀ x, x < 384 → bk' x = -1) → P (fs, fh, fl, th, wr, bk', hc, va, go, lo, sp, sv, sh, sd)) : ∀ (d j : Nat) (bk : Nat → Int32), j + d = 384 → (∀ x, x < j → bk x = -1) → wX_init_110 P fs fh fl (d + 1) (nI j) th wr bk hc va go lo sp sv sh sd := by
  intro d
  induction d with
  | zero =>
    intro j bk hj hb
    obtain rfl : j = 384 := by omega
    exact br_t (show (384 : Int32) ≤ nI 384 by decide) (hP bk hb)
  | succ d ih =>
    intro j bk hj hb
    unfold wX_init_110
    rw [cw_cl (n := j) (by omega)]
    refine br_f (nI_ge (b := 384) (by omega) (by decide)) ⟨cw_in (by omega) (by decide), nm_e (nm_r (nI_1 j) (ih (j + 1) _ (by omega) (fun x hx => ?_)))⟩
    by_cases e : x = j
    · rw [e, pk_us]
    · rw [pk_un e]
      exact hb x (by omega)
theorem cw_C0 (b : Nat) : cw_C (fun _ => 0) (b + 1) = 0 := by
  apply Classical.byContradiction
  intro h
  obtain ⟨x, _, e⟩ := cw_C_pos.mp (Nat.pos_of_ne_zero h)
  omega
theorem i_vc0 : wpX_init (fun u => wpY_init (fun v => i_Rel 0 u v)) := by
  refine ⟨385, cx_init (fun bk' hb => ?_) 384 0 _ rfl (fun x hx => absurd hx (Nat.not_lt_zero x))⟩
  show i_Rel 0 _ _
  refine cw_mk (g := fun _ => 0) (s := 0) (h := 0) (l := 0) ⟨by decide, by decide, by decide, fun v _ h => absurd rfl h, fun x hx => ⟨Nat.zero_le _, (hb x hx).trans cw_em1.symm⟩, fun b _ => ?_, fun x _ => ⟨fun _ => rfl, fun h => absurd rfl h⟩, fun b _ h => ?_, fun d _ => Or.inl rfl, fun k => ⟨0, by decide, rfl⟩, fun k h => absurd rfl h⟩
  · rw [cw_C0]
    rfl
  · rw [cw_C0] at h
    exact absurd h (Nat.lt_irrefl 0)
/-! create -/
theorem cy_cr28 {v : Nat} (hv : v < 6) : ∀ (d j : Nat) (ha : Nat → Int32), j + d = 64 → ∃ ha' : Nat → Int32, (∀ x, x < 64 * v + j ∨ 64 * v + 64 ≤ x → ha' x = ha x) ∧ (∀ x, 64 * v + j ≤ x → x < 64 * v + 64 → ha' x = 0) ∧ ∀ P : Int32 → SY → Prop, P (nI v) (fs, fh, fl, th, fr, ha', be, va, ba, lo, sV, he, sp, sh) → wY_create_28 P (nI v) fs fh fl (d + 1) (nI j) th fr ha be va ba lo sV he sp sh := by
  intro d
  induction d with
  | zero =>
    intro j ha hj
    obtain rfl : j = 64 := by omega
    exact ⟨ha, fun x _ => rfl, fun x h1 h2 => by omega, fun P hP => br_t (show (64 : Int32) ≤ nI 64 by decide) hP⟩
  | succ d ih =>
    intro j ha hj
    obtain ⟨ha', h1, h2, hT⟩ := ih (j + 1) (upd ha (64 * v + j) 0) (by omega)
    refine ⟨ha', fun x hx => ?_, fun x hx hx2 => ?_, fun P hP => ?_⟩
    · rw [h1 x (by omega), pk_un (by omega)]
    · by_cases e : x = 64 * v + j
      · rw [h1 x (by omega), e, pk_us]
      · exact h2 x (by omega) hx2
    · unfold wY_create_28
      rw [cw_ix2, cw_cl (by omega), cw_by0]
      exact br_f (nI_ge (b := 64) (by omega) (by decide)) ⟨cw_in (by omega) (by decide), nm_e (nm_r (nI_1 j) (hT P hP))⟩
theorem cy_create_t {v : Nat} (hv : v < 6) (hY : ∀ P : Int32 → Prop, P (nI v) → wpY_least P (fs, fh, fl, th, fr, ha, be, va, ba, lo, sV, he, sp, sh)) : ∃ ha' : Nat → Int32, (∀ x, x < 64 * v ∨ 64 * v + 64 ≤ x → ha' x = ha x) ∧ (∀ x, 64 * v ≤ x → x < 64 * v + 64 → ha' x = 0) ∧ ∀ P : Int32 → SY → Prop, P (nI v) (fs, fh, fl, upd th v 1, upd fr v 0, ha', be, va, ba, lo, sV, he, sp, sh) → wpY_create P (fs, fh, fl, th, fr, ha, be, va, ba, lo, sV, he, sp, sh) := by
  obtain ⟨ha', h1, h2, hT⟩ := cy_cr28 (fs := fs) (fh := fh) (fl := fl) (th := upd th v 1) (fr := upd fr v 0) (be := be) (va := va) (ba := ba) (lo := lo) (sV := sV) (he := he) (sp := sp) (sh := sh) hv 64 0 ha rfl
  refine ⟨ha', h1, h2, fun P hP => ?_⟩
  unfold wpY_create
  dsimp only
  refine hY _ (br_t (nI_pos' (by omega)) ?_)
  rw [cw_cl (by omega), cw_b0, cw_b1]
  exact ⟨cw_in hv (by decide), nm_e ⟨cw_in hv (by decide), nm_e ⟨65, hT P hP⟩⟩⟩
theorem cy_create_f (hY : ∀ P : Int32 → Prop, P (-2) → wpY_least P (fs, fh, fl, th, fr, ha, be, va, ba, lo, sV, he, sp, sh)) {P : Int32 → SY → Prop} (hP : P (-2) (fs, fh, fl, th, fr, ha, be, va, ba, lo, sV, he, sp, sh)) : wpY_create P (fs, fh, fl, th, fr, ha, be, va, ba, lo, sV, he, sp, sh) := by
  unfold wpY_create
  dsimp only
  exact hY _ (br_f (by decide) hP)
theorem cw_WF_up {m : Nat} {a b : Int32} (hW : cw_WF th wr fr) (hab : a = 0 ↔ ¬ b = 0) : cw_WF (upd th m 1) (upd wr m a) (upd fr m b) := by
  intro v hv ht
  by_cases e : v = m
  · rw [e, pk_us, pk_us]
    exact hab
  · rw [pk_un e] at ht ⊢
    rw [pk_un e]
    exact hW v hv ht
theorem cw_upup (f : Nat → Int32) (m : Nat) (a b : Int32) : upd (upd f m a) m b = upd f m b := by
  funext x
  by_cases e : x = m
  · rw [e, pk_us, pk_us]
  · rw [pk_un e, pk_un e, pk_un e]
theorem i_vc_create {k : Nat} {u : SX} {v : SY} (I : i_Rel k u v) (hk : k + 6 ≤ 3072) : wpX_create (fun r u' => wpY_create (fun r' v' => r' = r ∧ i_Rel (k + 6) u' v') v) u := by
  obtain ⟨g, s, h, l, th, wr, bk, hc, va, go, lo, sp, sv, sh, sd, fr, ha, be, ba, sV, he, rfl, rfl, hs, hh, hl, hW, hB, hH, hA, hG, hL, hS, hV⟩ := I
  unfold wpX_create
  dsimp only
  rcases cj_least (fs := nI s) (fh := nI h) (fl := nI l) (th := th) (wr := wr) (bk := bk) (hc := hc) (va := va) (go := go) (lo := lo) (sp := sp) (sv := sv) (sh := sh) (sd := sd) (fr := fr) (ha := ha) (be := be) (ba := ba) (sV := sV) (he := he) with ⟨m, hm, ht, hX, hY⟩ | ⟨hX, hY⟩
  · refine hX _ (br_f (cw_en1 _ (by omega)) ?_)
    rw [cw_cl (by omega), cw_b1]
    obtain ⟨ha', h1, h2, hT⟩ := cy_create_t hm hY
    refine ⟨cw_in hm (by decide), nm_e ⟨cw_in hm (by decide), nm_e (hT _ ⟨rfl, cw_mk ⟨hs, hh, hl, cw_WF_up hW (by decide), hB, hH, fun x hx => ?_, hG, hL, hS, hV⟩⟩)⟩⟩
    by_cases e : x / 64 = m
    · rw [e, pk_us]
      exact ⟨fun z => absurd z (by decide), fun _ => by rw [h2 x (by omega) (by omega), (hA x hx).1 (by rw [e]; exact ht)]; rfl⟩
    · rw [pk_un e, h1 x (by omega)]
      exact hA x hx
  · exact hX _ (br_t rfl (cy_create_f hY ⟨rfl, cw_mk ⟨hs, hh, hl, hW, hB, hH, hA, hG, hL, hS, hV⟩⟩))
end
end
section
section
variable {fs fh fl : Int32} {th wr bk hc va go lo sp sv sh sd fr ha be ba sV he : Nat → Int32}
theorem cx_boe_t {v p : Nat} (hv : v < 6) (ht : ¬ th v = 0) (hp : p < 64) {P : Int32 → Prop} (hP : P (bk (64 * v + p))) : wpX_blockOrEmpty P (fs, fh, fl, th, wr, bk, hc, va, go, lo, sp, sv, sh, sd) (nI v) (nI p) := by
  unfold wpX_blockOrEmpty
  dsimp only
  rw [cw_ix1, cw_cl (by omega)]
  exact cx_is_t hv ht (br_f (by decide) (cx_place_t hp (br_f (by decide) ⟨cw_in (by omega) (by decide), hP⟩)))
theorem cx_boe_f {x y : Int32} (hn : ¬ (cw_is th x ∧ cw_lt 64 y)) {P : Int32 → Prop} (hP : P (-1)) : wpX_blockOrEmpty P (fs, fh, fl, th, wr, bk, hc, va, go, lo, sp, sv, sh, sd) x y := by
  unfold wpX_blockOrEmpty
  dsimp only
  by_cases h : cw_is th x
  · obtain ⟨v, hv, e, ht⟩ := id h
    subst e
    exact cx_is_t hv ht (br_f (by decide) (cx_place_f (fun z => hn ⟨h, z⟩) (br_t rfl hP)))
  · exact cx_is_f h (br_t rfl hP)
theorem cy_bat_t {v p : Nat} (hv : v < 6) (ht : ¬ th v = 0) (hp : p < 64) {P : Int32 → Prop} (hP : P (ha (64 * v + p) - 1)) : wpY_blockAt P (fs, fh, fl, th, fr, ha, be, va, ba, lo, sV, he, sp, sh) (nI v) (nI p) := by
  unfold wpY_blockAt
  dsimp only
  rw [cw_ix2, cw_cl (by omega)]
  exact cy_is_t hv ht (br_f (by decide) (cy_out_t hp (by decide) (br_t rfl ⟨cw_in (by omega) (by decide), hP⟩)))
theorem cy_bat_f {x y : Int32} (hn : ¬ (cw_is th x ∧ cw_lt 64 y)) {P : Int32 → Prop} (hP : P (-1)) : wpY_blockAt P (fs, fh, fl, th, fr, ha, be, va, ba, lo, sV, he, sp, sh) x y := by
  unfold wpY_blockAt
  dsimp only
  by_cases h : cw_is th x
  · obtain ⟨v, hv, e, ht⟩ := id h
    subst e
    exact cy_is_t hv ht (br_f (by decide) (cy_out_f (n := 64) (fun z => hn ⟨h, z⟩) (by decide) (br_f (by decide) hP)))
  · exact cy_is_f h (br_t rfl hP)
theorem cw_ha_at {g : Nat → Nat} {v p : Nat} (hA : cw_HA th g ha) (hv : v < 6) (ht : ¬ th v = 0) (hp : p < 64) : ha (64 * v + p) = nI (g (64 * v + p)) :=
  (hA (64 * v + p) (by omega)).2 (by rw [show (64 * v + p) / 64 = v by omega]; exact ht)
theorem i_vc_blockAt {k : Nat} {u : SX} {v : SY} (I : i_Rel k u v) (hk : k + 6 ≤ 3072) (v1 : Int32) (v2 : Int32) : wpX_blockAt (fun r => wpY_blockAt (fun r' => r' = r ∧ i_Rel (k + 6) u v) v v1 v2) u v1 v2 := by
  obtain ⟨g, s, h, l, th, wr, bk, hc, va, go, lo, sp, sv, sh, sd, fr, ha, be, ba, sV, he, rfl, rfl, hs, hh, hl, hW, hB, hH, hA, hG, hL, hS, hV⟩ := I
  unfold wpX_blockAt
  dsimp only
  by_cases hn : cw_is th v1 ∧ cw_lt 64 v2
  · obtain ⟨⟨a, ha6, rfl, ht⟩, ⟨p, hp, rfl⟩⟩ := hn
    refine cx_boe_t ha6 ht hp (cy_bat_t ha6 ht hp ⟨?_, cw_mk ⟨hs, hh, hl, hW, hB, hH, hA, hG, hL, hS, hV⟩⟩)
    rw [cw_ha_at hA ha6 ht hp, (hB _ (by omega)).2]
  · exact cx_boe_f hn (cy_bat_f hn ⟨rfl, cw_mk ⟨hs, hh, hl, hW, hB, hH, hA, hG, hL, hS, hV⟩⟩)
theorem i_vc_holders {k : Nat} {u : SX} {v : SY} (I : i_Rel k u v) (hk : k + 6 ≤ 3072) (v1 : Int32) : wpX_holders (fun r => wpY_holders (fun r' v' => r' = r ∧ i_Rel (k + 6) u v') v v1) u v1 := by
  obtain ⟨g, s, h, l, th, wr, bk, hc, va, go, lo, sp, sv, sh, sd, fr, ha, be, ba, sV, he, rfl, rfl, hs, hh, hl, hW, hB, hH, hA, hG, hL, hS, hV⟩ := I
  unfold wpX_holders
  dsimp only
  obtain ⟨he', hE, hT⟩ := cy_tally (fs := nI s) (fh := nI h) (fl := nI l) (fr := fr) (be := be) (va := va) (ba := ba) (lo := lo) (sV := sV) (he := he) (sp := sp) (sh := sh) hA (cw_g80 hB)
  by_cases hn : cw_lt 80 v1
  · obtain ⟨b, hb, rfl⟩ := hn
    have hY : ∀ r, nI (cw_C g (b + 1)) = r → wpY_holders (fun r' v' => r' = r ∧ i_Rel (k + 6) (nI s, nI h, nI l, th, wr, bk, hc, va, go, lo, sp, sv, sh, sd) v') (nI s, nI h, nI l, th, fr, ha, be, va, ba, lo, sV, he, sp, sh) (nI b) := by
      intro r hr
      unfold wpY_holders
      dsimp only
      refine hT _ (cy_out_t (n := 80) hb (by decide) (br_t rfl ?_))
      dsimp only
      rw [nI_1, cw_cl (by omega), hE b hb]
      exact ⟨cw_in (by omega) (by decide), hr, cw_mk ⟨hs, hh, hl, hW, hB, hH, hA, hG, hL, hS, hV⟩⟩
    by_cases hu : 0 < cw_C g (b + 1)
    · refine cx_used_t hb hH hu (br_f (by decide) ⟨cw_in hb (by decide), hY _ ?_⟩)
      rw [cw_cl (by omega), hH b hb]
    · refine cx_used_z hb hH hu (br_t rfl (hY _ ?_))
      rw [Nat.eq_zero_of_not_pos hu]
      rfl
  · refine cx_used_f hn (br_t rfl ?_)
    unfold wpY_holders
    dsimp only
    exact hT _ (cy_out_f (n := 80) hn (by decide) (br_f (by decide) ⟨rfl, cw_mk ⟨hs, hh, hl, hW, hB, hH, hA, hG, hL, hS, hV⟩⟩))
theorem cj_differ2 {g : Nat → Nat} {v w : Nat} (hv : v < 6) (htv : ¬ th v = 0) (hw : w < 6) (htw : ¬ th w = 0) (hB : cw_BK g bk) (hA : cw_HA th g ha) : ∀ (d j : Nat) (c : Int32), j + d = 64 →
    ∃ r, (∀ P : Int32 → Prop, P r → wX_differ_23 P (nI v) (nI w) fs fh fl th wr bk hc va go lo sp sv sh sd (d + 1) c (nI j)) ∧ (∀ P : Int32 → Prop, P r → wY_differ_23 P (nI v) (nI w) fs fh fl th fr ha be va ba lo sV he sp sh (d + 1) c (nI j)) := by
  intro d
  induction d with
  | zero =>
    intro j c hj
    obtain rfl : j = 64 := by omega
    have h : (64 : Int32) ≤ nI 64 := by decide
    exact ⟨c, fun P hP => br_t h hP, fun P hP => br_t h hP⟩
  | succ d ih =>
    intro j c hj
    have h : ¬ (64 : Int32) ≤ nI j := nI_ge (b := 64) (by omega) (by decide)
    have iv : vp_in (nI (64 * v + j)) 384 := cw_in (by omega) (by decide)
    have iw : vp_in (nI (64 * w + j)) 384 := cw_in (by omega) (by decide)
    obtain ⟨gv, bv⟩ := hB (64 * v + j) (by omega)
    obtain ⟨gw, bw⟩ := hB (64 * w + j) (by omega)
    have av := cw_ha_at hA hv htv (p := j) (by omega)
    have aw := cw_ha_at hA hw htw (p := j) (by omega)
    unfold wX_differ_23 wY_differ_23
    rw [cw_ix1, cw_ix1, cw_ix2, cw_ix2, cw_cl (n := 64 * v + j) (by omega), cw_cl (n := 64 * w + j) (by omega), bv, bw, av, aw, cw_eq (by omega) (by omega), nI_eq (by omega) (by omega)]
    by_cases e : g (64 * v + j) = g (64 * w + j)
    · obtain ⟨r, hX, hY⟩ := ih (j + 1) c (by omega)
      exact ⟨r, fun P hP => br_f h ⟨iv, iw, br_t e (nm_r (nI_1 j) (hX P hP))⟩, fun P hP => br_f h ⟨iv, iw, br_t e (nm_r (nI_1 j) (hY P hP))⟩⟩
    · obtain ⟨r, hX, hY⟩ := ih (j + 1) (c + 1) (by omega)
      exact ⟨r, fun P hP => br_f h ⟨iv, iw, br_f e (nm_e (nm_r (nI_1 j) (hX P hP)))⟩, fun P hP => br_f h ⟨iv, iw, br_f e (nm_e (nm_r (nI_1 j) (hY P hP)))⟩⟩
theorem i_vc_differ {k : Nat} {u : SX} {v : SY} (I : i_Rel k u v) (hk : k + 6 ≤ 3072) (v1 : Int32) (v2 : Int32) : wpX_differ (fun r => wpY_differ (fun r' => r' = r ∧ i_Rel (k + 6) u v) v v1 v2) u v1 v2 := by
  obtain ⟨g, s, h, l, th, wr, bk, hc, va, go, lo, sp, sv, sh, sd, fr, ha, be, ba, sV, he, rfl, rfl, hs, hh, hl, hW, hB, hH, hA, hG, hL, hS, hV⟩ := I
  unfold wpX_differ wpY_differ
  dsimp only
  by_cases h1 : cw_is th v1
  · obtain ⟨a, ha6, rfl, hta⟩ := h1
    refine cx_is_t ha6 hta (br_f (by decide) ?_)
    by_cases h2 : cw_is th v2
    · obtain ⟨b, hb6, rfl, htb⟩ := h2
      obtain ⟨r, hX, hY⟩ := cj_differ2 (fs := nI s) (fh := nI h) (fl := nI l) (th := th) (wr := wr) (bk := bk) (hc := hc) (va := va) (go := go) (lo := lo) (sp := sp) (sv := sv) (sh := sh) (sd := sd) (fr := fr) (ha := ha) (be := be) (ba := ba) (sV := sV) (he := he) ha6 hta hb6 htb hB hA 64 0 0 rfl
      exact cx_is_t hb6 htb (br_f (by decide) ⟨65, hX _ (cy_is_t ha6 hta (br_f (by decide) (cy_is_t hb6 htb (br_f (by decide) ⟨65, hY _ ⟨rfl, cw_mk ⟨hs, hh, hl, hW, hB, hH, hA, hG, hL, hS, hV⟩⟩⟩))))⟩)
    · exact cx_is_f h2 (br_t rfl (cy_is_t ha6 hta (br_f (by decide) (cy_is_f h2 (br_t rfl ⟨rfl, cw_mk ⟨hs, hh, hl, hW, hB, hH, hA, hG, hL, hS, hV⟩⟩)))))
  · exact cx_is_f h1 (br_t rfl (cy_is_f h1 (br_t rfl ⟨rfl, cw_mk ⟨hs, hh, hl, hW, hB, hH, hA, hG, hL, hS, hV⟩⟩)))
theorem cj_diffe2 {g : Nat → Nat} {v w : Nat} {q : Int32} (hv : v < 6) (htv : ¬ th v = 0) (hw : w < 6) (htw : ¬ th w = 0) (hB : cw_BK g bk) (hA : cw_HA th g ha) : ∀ (d j : Nat) (c : Int32), j + d = 64 →
    ∃ r, (∀ P : Int32 → Prop, P r → wX_difference_24 P (nI v) (nI w) q fs fh fl th wr bk hc va go lo sp sv sh sd (d + 1) c (nI j)) ∧ (∀ P : Int32 → Prop, P r → wY_difference_24 P (nI v) (nI w) q fs fh fl th fr ha be va ba lo sV he sp sh (d + 1) c (nI j)) := by
  intro d
  induction d with
  | zero =>
    intro j c hj
    obtain rfl : j = 64 := by omega
    have h : (64 : Int32) ≤ nI 64 := by decide
    exact ⟨-1, fun P hP => br_t h hP, fun P hP => br_t h hP⟩
  | succ d ih =>
    intro j c hj
    have h : ¬ (64 : Int32) ≤ nI j := nI_ge (b := 64) (by omega) (by decide)
    have iv : vp_in (nI (64 * v + j)) 384 := cw_in (by omega) (by decide)
    have iw : vp_in (nI (64 * w + j)) 384 := cw_in (by omega) (by decide)
    obtain ⟨gv, bv⟩ := hB (64 * v + j) (by omega)
    obtain ⟨gw, bw⟩ := hB (64 * w + j) (by omega)
    have av := cw_ha_at hA hv htv (p := j) (by omega)
    have aw := cw_ha_at hA hw htw (p := j) (by omega)
    unfold wX_difference_24 wY_difference_24
    rw [cw_ix1, cw_ix1, cw_ix2, cw_ix2, cw_cl (n := 64 * v + j) (by omega), cw_cl (n := 64 * w + j) (by omega), bv, bw, av, aw, cw_eq (by omega) (by omega), nI_eq (by omega) (by omega)]
    by_cases e : g (64 * v + j) = g (64 * w + j)
    · obtain ⟨r, hX, hY⟩ := ih (j + 1) c (by omega)
      exact ⟨r, fun P hP => br_f h ⟨iv, iw, br_t e (nm_r (nI_1 j) (hX P hP))⟩, fun P hP => br_f h ⟨iv, iw, br_t e (nm_r (nI_1 j) (hY P hP))⟩⟩
    · by_cases ek : c = q
      · exact ⟨nI j, fun P hP => br_f h ⟨iv, iw, br_f e (br_t ek hP)⟩, fun P hP => br_f h ⟨iv, iw, br_f e (br_t ek hP)⟩⟩
      · obtain ⟨r, hX, hY⟩ := ih (j + 1) (c + 1) (by omega)
        exact ⟨r, fun P hP => br_f h ⟨iv, iw, br_f e (br_f ek (nm_e (nm_r (nI_1 j) (hX P hP))))⟩, fun P hP => br_f h ⟨iv, iw, br_f e (br_f ek (nm_e (nm_r (nI_1 j) (hY P hP))))⟩⟩
theorem i_vc_difference {k : Nat} {u : SX} {v : SY} (I : i_Rel k u v) (hk : k + 6 ≤ 3072) (v1 : Int32) (v2 : Int32) (v3 : Int32) : wpX_difference (fun r => wpY_difference (fun r' => r' = r ∧ i_Rel (k + 6) u v) v v1 v2 v3) u v1 v2 v3 := by
  obtain ⟨g, s, h, l, th, wr, bk, hc, va, go, lo, sp, sv, sh, sd, fr, ha, be, ba, sV, he, rfl, rfl, hs, hh, hl, hW, hB, hH, hA, hG, hL, hS, hV⟩ := I
  unfold wpX_difference wpY_difference
  dsimp only
  by_cases h1 : cw_is th v1
  · obtain ⟨a, ha6, rfl, hta⟩ := h1
    refine cx_is_t ha6 hta (br_f (by decide) ?_)
    by_cases h2 : cw_is th v2
    · obtain ⟨b, hb6, rfl, htb⟩ := h2
      obtain ⟨r, hX, hY⟩ := cj_diffe2 (fs := nI s) (fh := nI h) (fl := nI l) (th := th) (wr := wr) (bk := bk) (hc := hc) (va := va) (go := go) (lo := lo) (sp := sp) (sv := sv) (sh := sh) (sd := sd) (fr := fr) (ha := ha) (be := be) (ba := ba) (sV := sV) (he := he) (q := v3) ha6 hta hb6 htb hB hA 64 0 0 rfl
      exact cx_is_t hb6 htb (br_f (by decide) ⟨65, hX _ (cy_is_t ha6 hta (br_f (by decide) (cy_is_t hb6 htb (br_f (by decide) ⟨65, hY _ ⟨rfl, cw_mk ⟨hs, hh, hl, hW, hB, hH, hA, hG, hL, hS, hV⟩⟩⟩))))⟩)
    · exact cx_is_f h2 (br_t rfl (cy_is_t ha6 hta (br_f (by decide) (cy_is_f h2 (br_t rfl ⟨rfl, cw_mk ⟨hs, hh, hl, hW, hB, hH, hA, hG, hL, hS, hV⟩⟩)))))
  · exact cx_is_f h1 (br_t rfl (cy_is_f h1 (br_t rfl ⟨rfl, cw_mk ⟨hs, hh, hl, hW, hB, hH, hA, hG, hL, hS, hV⟩⟩)))
theorem i_vc_entry {k : Nat} {u : SX} {v : SY} (I : i_Rel k u v) (hk : k + 6 ≤ 3072) (v1 : Int32) : wpX_entry (fun r => wpY_entry (fun r' => r' = r ∧ i_Rel (k + 6) u v) v v1) u v1 := by
  obtain ⟨g, s, h, l, th, wr, bk, hc, va, go, lo, sp, sv, sh, sd, fr, ha, be, ba, sV, he, rfl, rfl, hs, hh, hl, hW, hB, hH, hA, hG, hL, hS, hV⟩ := I
  unfold wpX_entry wpY_entry
  dsimp only
  by_cases h1 : cw_lt l v1
  · obtain ⟨j, hj, rfl⟩ := h1
    have hi : vp_in (nI j) 64 := cw_in (by omega) (by decide)
    refine br_f (nI_pos (by omega)) (br_t (nI_lt hj (by omega)) ⟨hi, ?_⟩)
    rw [cw_cl (n := j) (by omega)]
    refine br_c (fun z => ⟨hi, cy_out_t hj (by omega) (br_t rfl ⟨hi, br_t z ⟨hi, rfl, cw_mk ⟨hs, hh, hl, hW, hB, hH, hA, hG, hL, hS, hV⟩⟩⟩)⟩) (fun z => ⟨hi, hi, cy_out_t hj (by omega) (br_t rfl ⟨hi, br_f z ⟨hi, hi, ?_, cw_mk ⟨hs, hh, hl, hW, hB, hH, hA, hG, hL, hS, hV⟩⟩⟩)⟩)
    rw [hV j z]
  · have hY : wpY_out (fun r_1 => (r_1 = 0 → vp_in v1 64 ∧ ((sh v1.toNatClampNeg = 0 → vp_in v1 64 ∧ 1000000000000 + (sp v1.toNatClampNeg).toInt64 = 1000000000101 ∧ i_Rel (k + 6) (nI s, nI h, nI l, th, wr, bk, hc, va, go, lo, sp, sv, sh, sd) (nI s, nI h, nI l, th, fr, ha, be, va, ba, lo, sV, he, sp, sh)) ∧ (¬ sh v1.toNatClampNeg = 0 → vp_in v1 64 ∧ vp_in v1 64 ∧ (sp v1.toNatClampNeg).toInt64 + 64 * (sV v1.toNatClampNeg).toInt64 = 1000000000101 ∧ i_Rel (k + 6) (nI s, nI h, nI l, th, wr, bk, hc, va, go, lo, sp, sv, sh, sd) (nI s, nI h, nI l, th, fr, ha, be, va, ba, lo, sV, he, sp, sh)))) ∧ (¬ r_1 = 0 → 1000000000101 = (1000000000101 : Int64) ∧ i_Rel (k + 6) (nI s, nI h, nI l, th, wr, bk, hc, va, go, lo, sp, sv, sh, sd) (nI s, nI h, nI l, th, fr, ha, be, va, ba, lo, sV, he, sp, sh))) v1 (nI l) :=
      cy_out_f h1 (by omega) (br_f (by decide) ⟨rfl, cw_mk ⟨hs, hh, hl, hW, hB, hH, hA, hG, hL, hS, hV⟩⟩)
    rcases pk_ix v1 (n := l) (by omega) with h2 | h2 | h2
    · exact br_t h2 hY
    · exact br_c (fun _ => hY) (fun _ => br_f (Int32.not_lt.mpr h2) hY)
    · exact absurd h2 h1
end
end
section
section
variable {fs fh fl : Int32} {th wr bk hc va go lo sp sv sh sd fr ha be ba sV he : Nat → Int32}
theorem cw_used {g : Nat → Nat} {x b : Nat} (hx : x < 384) (e : g x = b + 1) : 0 < cw_C g (b + 1) := cw_C_pos.mpr ⟨x, hx, e⟩
theorem i_vc_read {k : Nat} {u : SX} {v : SY} (I : i_Rel k u v) (hk : k + 6 ≤ 3072) (v1 : Int32) (v2 : Int32) : wpX_read (fun r u' => wpY_read (fun r' v' => r' = r ∧ i_Rel (k + 6) u' v') v v1 v2) u v1 v2 := by
  obtain ⟨g, s, h, l, th, wr, bk, hc, va, go, lo, sp, sv, sh, sd, fr, ha, be, ba, sV, he, rfl, rfl, hs, hh, hl, hW, hB, hH, hA, hG, hL, hS, hV⟩ := I
  unfold wpX_read
  dsimp only
  by_cases hn : cw_is th v1 ∧ cw_lt 64 v2
  · obtain ⟨⟨a, ha6, rfl, ht⟩, ⟨p, hp, rfl⟩⟩ := hn
    obtain ⟨g80, eB⟩ := hB (64 * a + p) (by omega)
    have eA := cw_ha_at hA ha6 ht hp
    refine cx_boe_t ha6 ht hp ?_
    rw [eB]
    by_cases h0 : g (64 * a + p) = 0
    · rw [h0]
      refine br_t cw_em1 ?_
      unfold wpY_read
      dsimp only
      refine cy_bat_t ha6 ht hp ?_
      rw [eA, h0]
      exact br_f (by decide) ⟨rfl, cw_mk ⟨hs, hh, hl, hW, hB, hH, hA, hG, hL, hS, hV⟩⟩
    · obtain ⟨b, eb⟩ : ∃ b, g (64 * a + p) = b + 1 := ⟨g (64 * a + p) - 1, by omega⟩
      have hb : b < 80 := by omega
      have hu := cw_used (g := g) (x := 64 * a + p) (by omega) eb
      rw [eb, cw_p1]
      obtain ⟨G0, G1⟩ := hG b hb hu
      obtain ⟨r, h', go', ba', y, hh', hn', G0', G1', hy, _, hX, hY⟩ := cj_look (fs := nI s) (fl := nI l) (th := th) (wr := wr) (bk := bk) (hc := hc) (va := va) (go := go) (lo := lo) (sp := sp) (sv := sv) (sh := sh) (sd := sd) (fr := fr) (ha := ha) (be := be) (ba := ba) (sV := sV) (he := he) hb hh G0 G1
      have hR := cw_RG_look hb hG hn' G0' G1'
      have hYY : ∀ z, y = z → wpY_read (fun r' v' => r' = z ∧ i_Rel (k + 6) (nI s, nI h', nI l, th, wr, bk, hc, va, go', lo, sp, sv, sh, sd) v') (nI s, nI h, nI l, th, fr, ha, be, va, ba, lo, sV, he, sp, sh) (nI a) (nI p) := by
        intro z hz
        unfold wpY_read
        dsimp only
        refine cy_bat_t ha6 ht hp ?_
        rw [eA, eb, cw_p1]
        exact br_t (nI_pos' (by omega)) (hY _ ⟨hz, cw_mk ⟨hs, hh', hl, hW, hB, hH, hA, hR, hL, hS, hV⟩⟩)
      refine br_f (cw_en1 _ (by omega)) (hX _ ?_)
      dsimp only
      rcases hy with ⟨y0, y1, e⟩ | ⟨y01, e⟩
      · exact cx_broken_t hb y0 y1 (br_f (by decide) (hYY _ e))
      · refine cx_broken_f hb y01 (br_t rfl ⟨cw_in hb (by decide), hYY _ ?_⟩)
        rw [cw_cl (by omega)]
        exact e
  · refine cx_boe_f hn (br_t rfl ?_)
    unfold wpY_read
    dsimp only
    exact cy_bat_f hn (br_f (by decide) ⟨rfl, cw_mk ⟨hs, hh, hl, hW, hB, hH, hA, hG, hL, hS, hV⟩⟩)
theorem cw_RG_at {g : Nat → Nat} {b d : Nat} (hR : cw_RG g go ba) (hb : b < 80) (hu : 0 < cw_C g (b + 1)) (hd : d < 2) : cw_G (go (80 * d + b)) (ba (80 * d + b)) := by
  obtain ⟨h0, h1⟩ := hR b hb hu
  rcases (show d = 0 ∨ d = 1 by omega) with e | e
  · rw [e, show 80 * 0 + b = b by omega]
    exact h0
  · rw [e, show 80 * 1 + b = 80 + b by omega]
    exact h1
theorem cw_RG_put {g : Nat → Nat} {b d : Nat} {go' ba' : Nat → Int32} (hR : cw_RG g go ba) (hb : b < 80) (hd : d < 2) (hn : ∀ i, i ≠ 80 * d + b → go' i = go i ∧ ba' i = ba i) (hi : cw_G (go' (80 * d + b)) (ba' (80 * d + b))) : cw_RG g go' ba' := by
  intro c hc hu
  obtain ⟨h0, h1⟩ := hR c hc hu
  constructor
  · by_cases e : c = 80 * d + b
    · rw [e]
      exact hi
    · obtain ⟨e1, e2⟩ := hn c e
      rw [e1, e2]
      exact h0
  · by_cases e : 80 + c = 80 * d + b
    · rw [e]
      exact hi
    · obtain ⟨e1, e2⟩ := hn (80 + c) e
      rw [e1, e2]
      exact h1
theorem i_vc_spoil {k : Nat} {u : SX} {v : SY} (I : i_Rel k u v) (hk : k + 6 ≤ 3072) (v1 : Int32) (v2 : Int32) : wpX_spoil (fun r u' => wpY_spoil (fun r' v' => r' = r ∧ i_Rel (k + 6) u' v') v v1 v2) u v1 v2 := by
  obtain ⟨g, s, h, l, th, wr, bk, hc, va, go, lo, sp, sv, sh, sd, fr, ha, be, ba, sV, he, rfl, rfl, hs, hh, hl, hW, hB, hH, hA, hG, hL, hS, hV⟩ := I
  unfold wpX_spoil wpY_spoil
  dsimp only
  obtain ⟨he', hE, hT⟩ := cy_tally (fs := nI s) (fh := nI h) (fl := nI l) (fr := fr) (be := be) (va := va) (ba := ba) (lo := lo) (sV := sV) (he := he) (sp := sp) (sh := sh) hA (cw_g80 hB)
  by_cases h1 : cw_lt 2 v1
  · obtain ⟨d, hd, rfl⟩ := h1
    refine cx_disk_t hd (br_f (by decide) ?_)
    by_cases h2 : cw_lt 80 v2
    · obtain ⟨b, hb, rfl⟩ := h2
      have hl' := cw_C_le g (b + 1)
      have hi : vp_in (nI (80 * d + b)) 160 := cw_in (by omega) (by decide)
      rw [cw_ix3, cw_ix4, cw_cl (n := 80 * d + b) (by omega), nI_1, cw_cl (n := b + 1) (by omega), cw_b0, cw_b1]
      by_cases hu : 0 < cw_C g (b + 1)
      · have hG' := cw_RG_at hG hb hu hd
        refine cx_used_t hb hH hu (br_f (by decide) ⟨hi, nm_e ⟨hi, nm_e ⟨cw_n01 (cw_G_01 hG'), ?_⟩⟩⟩)
        refine cy_out_t (n := 2) hd (by decide) (br_t rfl (cy_out_t (n := 80) hb (by decide) (br_t rfl (hT _ ?_))))
        dsimp only
        rw [hE b hb, cw_z0 (by omega)]
        refine ⟨cw_in (by omega) (by decide), br_f (by omega) ⟨hi, ?_⟩⟩
        rcases hG' with ⟨e1, e2⟩ | ⟨e1, e2⟩
        · rw [e1, e2]
          refine br_f (by decide) ⟨rfl, cw_mk ⟨hs, hh, hl, hW, hB, hH, hA, cw_RG_put hG hb hd (fun i hi => ⟨pk_un hi, rfl⟩) (Or.inl ⟨pk_us, e2⟩), hL, hS, hV⟩⟩
        · rw [e1, e2]
          refine br_t rfl ⟨hi, nm_e ⟨rfl, cw_mk ⟨hs, hh, hl, hW, hB, hH, hA, cw_RG_put hG hb hd (fun i hi => ⟨pk_un hi, pk_un hi⟩) (Or.inl ⟨pk_us, pk_us⟩), hL, hS, hV⟩⟩⟩
      · refine cx_used_z hb hH hu (br_t rfl ?_)
        refine cy_out_t (n := 2) hd (by decide) (br_t rfl (cy_out_t (n := 80) hb (by decide) (br_t rfl (hT _ ?_))))
        dsimp only
        rw [hE b hb, cw_z0 (by omega)]
        exact ⟨cw_in (by omega) (by decide), br_t (by omega) ⟨rfl, cw_mk ⟨hs, hh, hl, hW, hB, hH, hA, hG, hL, hS, hV⟩⟩⟩
    · exact cx_used_f h2 (br_t rfl (cy_out_t (n := 2) hd (by decide) (br_t rfl (cy_out_f (n := 80) h2 (by decide) (br_f (by decide) ⟨rfl, cw_mk ⟨hs, hh, hl, hW, hB, hH, hA, hG, hL, hS, hV⟩⟩)))))
  · exact cx_disk_f h1 (br_t rfl (cy_out_f (n := 2) h1 (by decide) (br_f (by decide) ⟨rfl, cw_mk ⟨hs, hh, hl, hW, hB, hH, hA, hG, hL, hS, hV⟩⟩)))
theorem cw_L_up {d : Nat} {a : Int32} (hL : ∀ d, d < 2 → lo d = 0 ∨ lo d = 1) (ha : a = 0 ∨ a = 1) : ∀ e, e < 2 → upd lo d a e = 0 ∨ upd lo d a e = 1 := by
  intro e he
  by_cases q : e = d
  · rw [q, pk_us]
    exact ha
  · rw [pk_un q]
    exact hL e he
theorem i_vc_replace {k : Nat} {u : SX} {v : SY} (I : i_Rel k u v) (hk : k + 6 ≤ 3072) (v1 : Int32) : wpX_replace (fun r u' => wpY_replace (fun r' v' => r' = r ∧ i_Rel (k + 6) u' v') v v1) u v1 := by
  obtain ⟨g, s, h, l, th, wr, bk, hc, va, go, lo, sp, sv, sh, sd, fr, ha, be, ba, sV, he, rfl, rfl, hs, hh, hl, hW, hB, hH, hA, hG, hL, hS, hV⟩ := I
  unfold wpX_replace wpY_replace
  dsimp only
  by_cases h1 : cw_lt 2 v1
  · obtain ⟨d, hd, rfl⟩ := h1
    have hi : vp_in (nI d) 2 := cw_in hd (by decide)
    rw [cw_cl (n := d) (by omega), cw_b0]
    refine cx_disk_t hd (br_f (by decide) ⟨hi, br_c (fun z => cy_out_t (n := 2) hd (by decide) (br_t rfl ⟨hi, br_t z ⟨rfl, cw_mk ⟨hs, hh, hl, hW, hB, hH, hA, hG, hL, hS, hV⟩⟩⟩)) (fun z => ⟨hi, nm_e (cy_out_t (n := 2) hd (by decide) (br_t rfl ⟨hi, br_f z ⟨hi, nm_e ⟨rfl, ?_⟩⟩⟩))⟩)⟩)
    exact cw_mk ⟨hs, hh, hl, hW, hB, hH, hA, hG, cw_L_up hL (Or.inl rfl), hS, hV⟩
  · exact cx_disk_f h1 (br_t rfl (cy_out_f (n := 2) h1 (by decide) (br_f (by decide) ⟨rfl, cw_mk ⟨hs, hh, hl, hW, hB, hH, hA, hG, hL, hS, hV⟩⟩)))
/-! lose: what stands below j is done, what stands from j on is as it was -/
theorem cj_lose2 {g : Nat → Nat} {q : Nat} (hq : q < 2) (hH : cw_HC g hc) (hE : cw_HE g he) : ∀ (d j : Nat) (c : Int32) (go ba : Nat → Int32), j + d = 80 → cw_RG g go ba →
    ∃ (r : Int32) (go' ba' : Nat → Int32), cw_RG g go' ba' ∧ (∀ P : Int32 → SX → Prop, P r (fs, fh, fl, th, wr, bk, hc, va, go', lo, sp, sv, sh, sd) → wX_lose_29 P (nI q) fs fh fl (d + 1) c (nI j) th wr bk hc va go lo sp sv sh sd) ∧ (∀ P : Int32 → SY → Prop, P r (fs, fh, fl, th, fr, ha, be, va, ba', lo, sV, he, sp, sh) → wY_lose_34 P (nI q) fs fh fl (d + 1) c (nI j) th fr ha be va ba lo sV he sp sh) := by
  intro d
  induction d with
  | zero =>
    intro j c go ba hj hR
    obtain rfl : j = 80 := by omega
    have h : (80 : Int32) ≤ nI 80 := by decide
    exact ⟨c, go, ba, hR, fun P hP => br_t h hP, fun P hP => br_t h hP⟩
  | succ d ih =>
    intro j c go ba hj hR
    have h : ¬ (80 : Int32) ≤ nI j := nI_ge (b := 80) (by omega) (by decide)
    have hl := cw_C_le g (j + 1)
    have hi : vp_in (nI (80 * q + j)) 160 := cw_in (by omega) (by decide)
    have hi1 : vp_in (nI (j + 1)) 81 := cw_in (by omega) (by decide)
    unfold wX_lose_29 wY_lose_34 wY_lose_68
    rw [cw_ix3, cw_ix4, cw_cl (n := 80 * q + j) (by omega), nI_1 j, cw_cl (n := j + 1) (by omega), hE j (by omega), cw_zl (by omega), cw_b0, cw_b1]
    by_cases hu : 0 < cw_C g (j + 1)
    · rcases cw_RG_at hR (by omega) hu hq with ⟨e1, e2⟩ | ⟨e1, e2⟩
      · obtain ⟨r, go', ba', hR', hX, hY⟩ := ih (j + 1) c go (upd ba (80 * q + j) 1) (by omega) (cw_RG_put hR (by omega) hq (fun i hi => ⟨rfl, pk_un hi⟩) (Or.inl ⟨e1, pk_us⟩))
        refine ⟨r, go', ba', hR', fun P hP => br_f h (cx_used_t (by omega) hH hu (br_f (by decide) ⟨hi, br_t e1 (nm_e (hX P hP))⟩)), fun P hP => br_f h ⟨hi1, br_f (by omega) ⟨hi, br_f (by rw [e2]; decide) ⟨hi, nm_e (nm_e (hY P hP))⟩⟩⟩⟩
      · obtain ⟨r, go', ba', hR', hX, hY⟩ := ih (j + 1) (c + 1) (upd go (80 * q + j) 0) (upd ba (80 * q + j) 1) (by omega) (cw_RG_put hR (by omega) hq (fun i hi => ⟨pk_un hi, pk_un hi⟩) (Or.inl ⟨pk_us, pk_us⟩))
        refine ⟨r, go', ba', hR', fun P hP => br_f h (cx_used_t (by omega) hH hu (br_f (by decide) ⟨hi, br_f (by rw [e1]; decide) ⟨hi, nm_e (nm_e (nm_e (hX P hP)))⟩⟩)), fun P hP => br_f h ⟨hi1, br_f (by omega) ⟨hi, br_t e2 (nm_e ⟨hi, nm_e (nm_e (hY P hP))⟩)⟩⟩⟩
    · have hR2 : cw_RG g go (upd ba (80 * q + j) 1) := by
        intro b hb hub
        have hbj : b ≠ j := fun e => hu (e ▸ hub)
        rw [pk_un (show b ≠ 80 * q + j by omega), pk_un (show 80 + b ≠ 80 * q + j by omega)]
        exact hR b hb hub
      obtain ⟨r, go', ba', hR', hX, hY⟩ := ih (j + 1) c go (upd ba (80 * q + j) 1) (by omega) hR2
      exact ⟨r, go', ba', hR', fun P hP => br_f h (cx_used_z (by omega) hH hu (br_t rfl (nm_e (hX P hP)))), fun P hP => br_f h ⟨hi1, br_t (by omega) ⟨hi, nm_e (nm_e (hY P hP))⟩⟩⟩
theorem i_vc_lose {k : Nat} {u : SX} {v : SY} (I : i_Rel k u v) (hk : k + 6 ≤ 3072) (v1 : Int32) : wpX_lose (fun r u' => wpY_lose (fun r' v' => r' = r ∧ i_Rel (k + 6) u' v') v v1) u v1 := by
  obtain ⟨g, s, h, l, th, wr, bk, hc, va, go, lo, sp, sv, sh, sd, fr, ha, be, ba, sV, he, rfl, rfl, hs, hh, hl, hW, hB, hH, hA, hG, hL, hS, hV⟩ := I
  unfold wpX_lose wpY_lose
  dsimp only
  by_cases h1 : cw_lt 2 v1
  · obtain ⟨d, hd, rfl⟩ := h1
    have hi : vp_in (nI d) 2 := cw_in hd (by decide)
    rw [cw_cl (n := d) (by omega), cw_b1]
    obtain ⟨he', hE, hT⟩ := cy_tally (fs := nI s) (fh := nI h) (fl := nI l) (fr := fr) (be := be) (va := va) (ba := ba) (lo := upd lo d 1) (sV := sV) (he := he) (sp := sp) (sh := sh) hA (cw_g80 hB)
    obtain ⟨r, go', ba', hR', hX, hY⟩ := cj_lose2 (fs := nI s) (fh := nI h) (fl := nI l) (th := th) (wr := wr) (bk := bk) (va := va) (lo := upd lo d 1) (sp := sp) (sv := sv) (sh := sh) (sd := sd) (fr := fr) (ha := ha) (be := be) (sV := sV) hd hH hE 80 0 0 go ba rfl hG
    refine cx_disk_t hd (br_f (by decide) ⟨hi, br_c (fun z => ⟨hi, nm_e ⟨81, hX _ (cy_out_t (n := 2) hd (by decide) (br_t rfl ⟨hi, br_t z ⟨hi, nm_e (hT _ ⟨81, hY _ ⟨rfl, ?_⟩⟩)⟩⟩))⟩⟩) (fun z => cy_out_t (n := 2) hd (by decide) (br_t rfl ⟨hi, br_f z ⟨rfl, cw_mk ⟨hs, hh, hl, hW, hB, hH, hA, hG, hL, hS, hV⟩⟩⟩))⟩)
    exact cw_mk ⟨hs, hh, hl, hW, hB, hH, hA, hR', cw_L_up hL (Or.inr rfl), hS, hV⟩
  · exact cx_disk_f h1 (br_t rfl (cy_out_f (n := 2) h1 (by decide) (br_f (by decide) ⟨rfl, cw_mk ⟨hs, hh, hl, hW, hB, hH, hA, hG, hL, hS, hV⟩⟩)))
end
end
section
section
variable {fs fh fl : Int32} {th wr bk hc va go lo sp sv sh sd fr ha be ba sV he : Nat → Int32}
theorem cw_mod80 {s : Nat} (hs : s < 80) : (nI s + 1) - (nI s + 1) / 80 * 80 = nI ((s + 1) % 80) := by
  rw [nI_1]
  exact pk_rem (a := s + 1) (d := 80) (by omega) (by decide) (by decide)
theorem cy_s120 {P : Int32 → SY → Prop} {J : Int32 → Int32 → Int32 → Int32 → Int32 → (Nat → Int32) → (Nat → Int32) → (Nat → Int32) → (Nat → Int32) → (Nat → Int32) → (Nat → Int32) → (Nat → Int32) → (Nat → Int32) → (Nat → Int32) → (Nat → Int32) → (Nat → Int32) → Prop} {x1 c : Int32} {s j : Nat} (hs : s < 80) (h : J c (nI (j + 1)) (nI ((s + 1) % 80)) fh fl th fr ha be va ba lo sV he sp sh) : wY_scrub_120 P J x1 c (nI j) (nI s) fh fl th fr ha be va ba lo sV he sp sh := by
  unfold wY_scrub_120
  exact ⟨by decide, nm_r (cw_mod80 hs) (nm_r (nI_1 j) h)⟩
theorem cy_s66 {P : Int32 → SY → Prop} {J : Int32 → Int32 → Int32 → Int32 → Int32 → (Nat → Int32) → (Nat → Int32) → (Nat → Int32) → (Nat → Int32) → (Nat → Int32) → (Nat → Int32) → (Nat → Int32) → (Nat → Int32) → (Nat → Int32) → (Nat → Int32) → (Nat → Int32) → Prop} {x1 c : Int32} {s j : Nat} (hs : s < 80) (h : J c (nI (j + 1)) (nI ((s + 1) % 80)) fh fl th fr ha be va ba lo sV he sp sh) : wY_scrub_66 P J x1 c (nI j) (nI s) fh fl th fr ha be va ba lo sV he sp sh := by
  unfold wY_scrub_66 wY_scrub_67 wY_scrub_86 wY_scrub_106
  have h2 := cy_s120 (P := P) (x1 := x1) hs h
  exact ⟨cw_in (by omega) (by decide), br_c (fun _ => br_t rfl (br_t rfl h2)) (fun _ => br_t rfl (br_t rfl h2))⟩
theorem cy_s86 {P : Int32 → SY → Prop} {J : Int32 → Int32 → Int32 → Int32 → Int32 → (Nat → Int32) → (Nat → Int32) → (Nat → Int32) → (Nat → Int32) → (Nat → Int32) → (Nat → Int32) → (Nat → Int32) → (Nat → Int32) → (Nat → Int32) → (Nat → Int32) → (Nat → Int32) → Prop} {x1 c : Int32} {s j q : Nat} (hq : q < 2)
    (h : wpY_look (fun _ u => match u with | (f1, f2, f3, a1, a2, a3, a4, a5, a6, a7, a8, a9, a10, a11) => wY_scrub_120 P J x1 (c + nI (if lo q = 0 then 1 else 0)) (nI j) f1 f2 f3 a1 a2 a3 a4 a5 a6 a7 a8 a9 a10 a11) (nI s, fh, fl, th, fr, ha, be, va, ba, lo, sV, he, sp, sh) (nI s)) : wY_scrub_86 P J x1 c (nI j) 1 (nI q) (nI s) fh fl th fr ha be va ba lo sV he sp sh := by
  unfold wY_scrub_86 wY_scrub_106
  rw [cw_cl (n := q) (by omega)]
  refine br_f (by decide) ⟨cw_in hq (by decide), ?_⟩
  by_cases hl : lo q = 0
  · rw [if_pos hl] at h
    exact br_t hl (nm_e (br_f (by decide) h))
  · rw [if_neg hl, nI_0, Int32.add_zero] at h
    exact br_f hl (br_f (by decide) h)
theorem cy_s67 {P : Int32 → SY → Prop} {J : Int32 → Int32 → Int32 → Int32 → Int32 → (Nat → Int32) → (Nat → Int32) → (Nat → Int32) → (Nat → Int32) → (Nat → Int32) → (Nat → Int32) → (Nat → Int32) → (Nat → Int32) → (Nat → Int32) → (Nat → Int32) → (Nat → Int32) → Prop} {x1 c : Int32} {s j h' : Nat} {ba' : Nat → Int32} {y : Int64} (hs : s < 80)
    (hY : ∀ P : Int64 → SY → Prop, P y (nI s, nI h', fl, th, fr, ha, be, va, ba', lo, sV, he, sp, sh) → wpY_look P (nI s, fh, fl, th, fr, ha, be, va, ba, lo, sV, he, sp, sh) (nI s))
    (h : J (c + nI (cw_scr lo ba s)) (nI (j + 1)) (nI ((s + 1) % 80)) (nI h') fl th fr ha be va ba' lo sV he sp sh) : wY_scrub_67 P J x1 c (nI j) 1 (nI s) fh fl th fr ha be va ba lo sV he sp sh := by
  unfold wY_scrub_67
  rw [cw_cl (n := s) (by omega)]
  unfold cw_scr at h
  refine ⟨cw_in (by omega) (by decide), br_c (fun z => ?_) (fun z => ?_)⟩
  · rw [if_pos z] at h
    exact cy_s86 (q := 1) (by decide) (hY _ (cy_s120 hs h))
  · rw [if_neg z] at h
    exact cy_s86 (q := 0) (by decide) (hY _ (cy_s120 hs h))
theorem cj_scrub2 {g : Nat → Nat} {n : Nat} (hn : n ≤ 80) (hH : cw_HC g hc) (hE : cw_HE g he) : ∀ (d j s h : Nat) (c : Int32) (go ba : Nat → Int32), j + d = n → s < 80 → h < 1000000 → cw_RG g go ba →
    ∃ (r : Int32) (s' h' : Nat) (go' ba' : Nat → Int32), s' < 80 ∧ h' < 1000000 ∧ cw_RG g go' ba' ∧ (∀ P : Int32 → SX → Prop, P r (nI s', nI h', fl, th, wr, bk, hc, va, go', lo, sp, sv, sh, sd) → wX_scrub_16 P (nI n) (d + 1) c (nI j) (nI s) (nI h) fl th wr bk hc va go lo sp sv sh sd) ∧ (∀ P : Int32 → SY → Prop, P r (nI s', nI h', fl, th, fr, ha, be, va, ba', lo, sV, he, sp, sh) → wY_scrub_19 P (nI n) (d + 1) c (nI j) (nI s) (nI h) fl th fr ha be va ba lo sV he sp sh) := by
  intro d
  induction d with
  | zero =>
    intro j s h c go ba hj hs hh hR
    obtain rfl : j = n := by omega
    have hle : nI j ≤ nI j := nI_le (by omega) (by omega)
    exact ⟨c, s, h, go, ba, hs, hh, hR, fun P hP => br_t hle hP, fun P hP => br_t hle hP⟩
  | succ d ih =>
    intro j s h c go ba hj hs hh hR
    have hlt : ¬ nI n ≤ nI j := nI_ge (by omega) (by omega)
    have hl := cw_C_le g (s + 1)
    have hm : (s + 1) % 80 < 80 := Nat.mod_lt _ (by decide)
    have i81 : vp_in (nI (s + 1)) 81 := cw_in (by omega) (by decide)
    have i1 : vp_in (nI s) 160 := cw_in (by omega) (by decide)
    have i2 : vp_in (nI (80 + s)) 160 := cw_in (by omega) (by decide)
    unfold wX_scrub_16 wY_scrub_19 wX_scrub_43
    rw [cw_ix5, cw_cl (n := s) (by omega), cw_cl (n := 80 + s) (by omega), nI_1 s, cw_cl (n := s + 1) (by omega), hE s hs, cw_zl (by omega)]
    by_cases hu : 0 < cw_C g (s + 1)
    · obtain ⟨G0, G1⟩ := hR s hs hu
      obtain ⟨r, h', go', ba', y, hh', hn', G0', G1', hy, hsc, hX, hY⟩ := cj_look (fs := nI s) (fl := fl) (th := th) (wr := wr) (bk := bk) (hc := hc) (va := va) (go := go) (lo := lo) (sp := sp) (sv := sv) (sh := sh) (sd := sd) (fr := fr) (ha := ha) (be := be) (ba := ba) (sV := sV) (he := he) hs hh G0 G1
      have hR' := cw_RG_look hs hR hn' G0' G1'
      obtain ⟨r2, s2, h2, go2, ba2, hs2, hh2, hR2, hX2, hY2⟩ := ih (j + 1) ((s + 1) % 80) h' (c + nI r) go' ba' (by omega) hm hh' hR'
      refine ⟨r2, s2, h2, go2, ba2, hs2, hh2, hR2, fun P hP => br_f hlt (cx_used_t hs hH hu (br_f (by decide) (hX _ (nm_e ⟨by decide, nm_r ?_ (nm_r (nI_1 j) (hX2 P hP))⟩)))), fun P hP => br_f hlt ⟨i81, br_f (by omega) ⟨i1, i2, ?_⟩⟩⟩
      · exact cw_mod80 hs
      · rcases hsc with ⟨e, rfl, rfl, rfl, rfl⟩ | ⟨e, rfl⟩
        · refine br_t e (cy_s66 hs ?_)
          have := hY2 P hP
          rw [nI_0, Int32.add_zero] at this
          exact this
        · exact br_f e (cy_s67 hs hY (hY2 P hP))
    · obtain ⟨r2, s2, h2, go2, ba2, hs2, hh2, hR2, hX2, hY2⟩ := ih (j + 1) ((s + 1) % 80) h c go ba (by omega) hm hh hR
      refine ⟨r2, s2, h2, go2, ba2, hs2, hh2, hR2, fun P hP => br_f hlt (cx_used_z hs hH hu (br_t rfl ⟨by decide, nm_r ?_ (nm_r (nI_1 j) (hX2 P hP))⟩)), fun P hP => br_f hlt ⟨i81, br_t (by omega) (cy_s66 hs (hY2 P hP))⟩⟩
      have := cw_mod80 hs
      rw [nI_1] at this
      exact this
theorem i_vc_scrub {k : Nat} {u : SX} {v : SY} (I : i_Rel k u v) (hk : k + 6 ≤ 3072) (v1 : Int32) : wpX_scrub (fun r u' => wpY_scrub (fun r' v' => r' = r ∧ i_Rel (k + 6) u' v') v v1) u v1 := by
  obtain ⟨g, s, h, l, th, wr, bk, hc, va, go, lo, sp, sv, sh, sd, fr, ha, be, ba, sV, he, rfl, rfl, hs, hh, hl, hW, hB, hH, hA, hG, hL, hS, hV⟩ := I
  unfold wpX_scrub wpY_scrub
  dsimp only
  by_cases h1 : cw_lt 81 v1
  · obtain ⟨n, hn, rfl⟩ := h1
    obtain ⟨he', hE, hT⟩ := cy_tally (fs := nI s) (fh := nI h) (fl := nI l) (fr := fr) (be := be) (va := va) (ba := ba) (lo := lo) (sV := sV) (he := he) (sp := sp) (sh := sh) hA (cw_g80 hB)
    obtain ⟨r, s', h', go', ba', hs', hh', hR', hX, hY⟩ := cj_scrub2 (fl := nI l) (th := th) (wr := wr) (bk := bk) (va := va) (lo := lo) (sp := sp) (sv := sv) (sh := sh) (sd := sd) (fr := fr) (ha := ha) (be := be) (sV := sV) (n := n) (by omega) hH hE n 0 s h 0 go ba (by omega) hs hh hG
    exact br_f (nI_pos (by omega)) (br_t (nI_le (b := 80) (by omega) (by decide)) ⟨n + 1, hX _ (cy_out_t (n := 81) hn (by decide) (br_t rfl (hT _ ⟨n + 1, hY _ ⟨rfl, cw_mk ⟨hs', hh', hl, hW, hB, hH, hA, hR', hL, hS, hV⟩⟩⟩)))⟩)
  · have hY : wpY_out (fun r_4 => (r_4 = 0 → wpY_tally (fun u => match u with | (f1, f2, f3, a1, a2, a3, a4, a5, a6, a7, a8, a9, a10, a11) => ∃ n19, wY_scrub_19 (fun r' v' => r' = -1 ∧ i_Rel (k + 6) (nI s, nI h, nI l, th, wr, bk, hc, va, go, lo, sp, sv, sh, sd) v') v1 n19 0 0 f1 f2 f3 a1 a2 a3 a4 a5 a6 a7 a8 a9 a10 a11) (nI s, nI h, nI l, th, fr, ha, be, va, ba, lo, sV, he, sp, sh)) ∧ (¬ r_4 = 0 → -1 = (-1 : Int32) ∧ i_Rel (k + 6) (nI s, nI h, nI l, th, wr, bk, hc, va, go, lo, sp, sv, sh, sd) (nI s, nI h, nI l, th, fr, ha, be, va, ba, lo, sV, he, sp, sh))) v1 81 :=
      cy_out_f (n := 81) h1 (by decide) (br_f (by decide) ⟨rfl, cw_mk ⟨hs, hh, hl, hW, hB, hH, hA, hG, hL, hS, hV⟩⟩)
    rcases pk_ix v1 (n := 81) (by decide) with h2 | h2 | h2
    · exact br_t h2 hY
    · exact br_c (fun _ => hY) (fun _ => br_f (fun z => absurd (Int32.le_trans h2 z) (by decide)) hY)
    · exact absurd h2 h1
end
end
section
section
variable {fs fh fl : Int32} {th wr bk hc va go lo sp sv sh sd fr ha be ba sV he : Nat → Int32}
def cw_zb (x : Int32) : Int32 := if x = 0 then 0 else 1
theorem cw_zb_G {a b : Int32} (h : cw_G a b) : cw_zb b = b := by
  rcases h with ⟨_, h⟩ | ⟨_, h⟩ <;> subst h <;> decide
theorem cy_c99_0 {P : Int32 → SY → Prop} {J : Int32 → Int32 → Prop} {c z0 z1 : Int32} {j : Nat} (h : J (c + 1) (nI (j + 1))) : wY_count_99 P J 0 c (nI j) z0 z1 fs fh fl th fr ha be va ba lo sV he sp sh := by
  unfold wY_count_99
  exact nm_e (br_t rfl (nm_e (nm_r (nI_1 j) h)))
theorem cy_c99_2 {P : Int32 → SY → Prop} {J : Int32 → Int32 → Prop} {c z0 z1 : Int32} {j : Nat} (h : J (c + (z1 + z0)) (nI (j + 1))) : wY_count_99 P J 2 c (nI j) z0 z1 fs fh fl th fr ha be va ba lo sV he sp sh := by
  unfold wY_count_99
  exact nm_e (br_f (by decide) (br_t rfl (nm_e (nm_r (nI_1 j) h))))
theorem cy_c99_1 {P : Int32 → SY → Prop} {J : Int32 → Int32 → Prop} {c z0 z1 : Int32} {j : Nat} (h : J (c + (z1 + z0) / 2) (nI (j + 1))) : wY_count_99 P J 1 c (nI j) z0 z1 fs fh fl th fr ha be va ba lo sV he sp sh := by
  unfold wY_count_99
  exact nm_e (br_f (by decide) (br_f (by decide) ⟨by decide, nm_e (nm_r (nI_1 j) h)⟩))
theorem cy_cstep_u {g : Nat → Nat} {P : Int32 → SY → Prop} {x1 c : Int32} {j n : Nat} (hj : j < 80) (hE : cw_HE g he) (hu : 0 < cw_C g (j + 1)) (h : wY_count_99 P (wY_count_48 P x1 fs fh fl th fr ha be va ba lo sV he sp sh n) x1 c (nI j) (cw_zb (ba (80 + j))) (cw_zb (ba j)) fs fh fl th fr ha be va ba lo sV he sp sh) : wY_count_48 P x1 fs fh fl th fr ha be va ba lo sV he sp sh (n + 1) c (nI j) := by
  have hl := cw_C_le g (j + 1)
  unfold wY_count_48 wY_count_82
  rw [cw_ix5, cw_cl (n := j) (by omega), cw_cl (n := 80 + j) (by omega), nI_1 j, cw_cl (n := j + 1) (by omega), hE j hj, cw_z0 (by omega)]
  have i1 : vp_in (nI j) 160 := cw_in (by omega) (by decide)
  have i2 : vp_in (nI (80 + j)) 160 := cw_in (by omega) (by decide)
  unfold cw_zb at h
  refine br_f (nI_ge (b := 80) hj (by decide)) ⟨cw_in (by omega) (by decide), br_f (by omega) ⟨i1, ?_⟩⟩
  by_cases e1 : ba j = 0
  · rw [if_pos e1] at h
    by_cases e2 : ba (80 + j) = 0
    · rw [if_pos e2] at h
      exact br_t e1 ⟨i2, br_t e2 h⟩
    · rw [if_neg e2] at h
      exact br_t e1 ⟨i2, br_f e2 h⟩
  · rw [if_neg e1] at h
    by_cases e2 : ba (80 + j) = 0
    · rw [if_pos e2] at h
      exact br_f e1 ⟨i2, br_t e2 h⟩
    · rw [if_neg e2] at h
      exact br_f e1 ⟨i2, br_f e2 h⟩
theorem cy_cstep_z {g : Nat → Nat} {P : Int32 → SY → Prop} {x1 c : Int32} {j n : Nat} (hj : j < 80) (hE : cw_HE g he) (hu : ¬ 0 < cw_C g (j + 1)) (h : wY_count_48 P x1 fs fh fl th fr ha be va ba lo sV he sp sh n c (nI (j + 1))) : wY_count_48 P x1 fs fh fl th fr ha be va ba lo sV he sp sh (n + 1) c (nI j) := by
  have hl := cw_C_le g (j + 1)
  unfold wY_count_48
  rw [nI_1 j, cw_cl (n := j + 1) (by omega), hE j hj, cw_z0 (by omega)]
  exact br_f (nI_ge (b := 80) hj (by decide)) ⟨cw_in (by omega) (by decide), br_t (by omega) (nm_e h)⟩
theorem cy_cend {P : Int32 → SY → Prop} {x1 c : Int32} {n : Nat} (h : P c (fs, fh, fl, th, fr, ha, be, va, ba, lo, sV, he, sp, sh)) : wY_count_48 P x1 fs fh fl th fr ha be va ba lo sV he sp sh (n + 1) c (nI 80) := br_t (show (80 : Int32) ≤ nI 80 by decide) h
theorem cj_count0 {g : Nat → Nat} (hH : cw_HC g hc) (hE : cw_HE g he) : ∀ (d j : Nat) (c : Int32), j + d = 80 →
    ∃ r, (∀ P : Int32 → Prop, P r → wX_countUsed_4 P fs fh fl th wr bk hc va go lo sp sv sh sd (d + 1) c (nI j)) ∧ (∀ P : Int32 → SY → Prop, P r (fs, fh, fl, th, fr, ha, be, va, ba, lo, sV, he, sp, sh) → wY_count_48 P 0 fs fh fl th fr ha be va ba lo sV he sp sh (d + 1) c (nI j)) := by
  intro d
  induction d with
  | zero =>
    intro j c hj
    obtain rfl : j = 80 := by omega
    exact ⟨c, fun P hP => br_t (show (80 : Int32) ≤ nI 80 by decide) hP, fun P hP => cy_cend hP⟩
  | succ d ih =>
    intro j c hj
    have h : ¬ (80 : Int32) ≤ nI j := nI_ge (b := 80) (by omega) (by decide)
    by_cases hu : 0 < cw_C g (j + 1)
    · obtain ⟨r, hX, hY⟩ := ih (j + 1) (c + 1) (by omega)
      exact ⟨r, fun P hP => br_f h (cx_used_t (by omega) hH hu (br_f (by decide) (nm_e (nm_r (nI_1 j) (hX P hP))))), fun P hP => cy_cstep_u (by omega) hE hu (cy_c99_0 (hY P hP))⟩
    · obtain ⟨r, hX, hY⟩ := ih (j + 1) c (by omega)
      exact ⟨r, fun P hP => br_f h (cx_used_z (by omega) hH hu (br_t rfl (nm_r (nI_1 j) (hX P hP)))), fun P hP => cy_cstep_z (by omega) hE hu (hY P hP)⟩
theorem cw_d00 (c : Int32) : c + ((0 : Int32) + 0) / 2 = c := by rw [show ((0 : Int32) + 0) / 2 = 0 by decide, Int32.add_zero]
theorem cw_d01 (c : Int32) : c + ((0 : Int32) + 1) / 2 = c := by rw [show ((0 : Int32) + 1) / 2 = 0 by decide, Int32.add_zero]
theorem cw_d10 (c : Int32) : c + ((1 : Int32) + 0) / 2 = c := by rw [show ((1 : Int32) + 0) / 2 = 0 by decide, Int32.add_zero]
theorem cw_d11 (c : Int32) : c + ((1 : Int32) + 1) / 2 = c + 1 := by rw [show ((1 : Int32) + 1) / 2 = 1 by decide]
theorem cj_count1 {g : Nat → Nat} (hH : cw_HC g hc) (hE : cw_HE g he) (hR : cw_RG g go ba) : ∀ (d j : Nat) (c : Int32), j + d = 80 →
    ∃ r, (∀ P : Int32 → Prop, P r → wX_countBroken_4 P fs fh fl th wr bk hc va go lo sp sv sh sd (d + 1) c (nI j)) ∧ (∀ P : Int32 → SY → Prop, P r (fs, fh, fl, th, fr, ha, be, va, ba, lo, sV, he, sp, sh) → wY_count_48 P 1 fs fh fl th fr ha be va ba lo sV he sp sh (d + 1) c (nI j)) := by
  intro d
  induction d with
  | zero =>
    intro j c hj
    obtain rfl : j = 80 := by omega
    exact ⟨c, fun P hP => br_t (show (80 : Int32) ≤ nI 80 by decide) hP, fun P hP => cy_cend hP⟩
  | succ d ih =>
    intro j c hj
    have h : ¬ (80 : Int32) ≤ nI j := nI_ge (b := 80) (by omega) (by decide)
    by_cases hu : 0 < cw_C g (j + 1)
    · obtain ⟨G0, G1⟩ := hR j (by omega) hu
      have z0 := cw_zb_G G0
      have z1 := cw_zb_G G1
      by_cases hb : go j = 0 ∧ go (80 + j) = 0
      · obtain ⟨r, hX, hY⟩ := ih (j + 1) (c + 1) (by omega)
        refine ⟨r, fun P hP => br_f h (cx_used_t (by omega) hH hu (br_f (by decide) (cx_broken_t (by omega) hb.1 hb.2 (br_f (by decide) (nm_e (nm_r (nI_1 j) (hX P hP))))))), fun P hP => cy_cstep_u (by omega) hE hu (cy_c99_1 ?_)⟩
        rw [z0, z1]
        rcases G0 with ⟨_, e0⟩ | ⟨f0, e0⟩
        · rcases G1 with ⟨_, e1⟩ | ⟨f1, e1⟩
          · rw [e0, e1, cw_d11]
            exact hY P hP
          · exact absurd (f1.symm.trans hb.2) (by decide)
        · exact absurd (f0.symm.trans hb.1) (by decide)
      · obtain ⟨r, hX, hY⟩ := ih (j + 1) c (by omega)
        refine ⟨r, fun P hP => br_f h (cx_used_t (by omega) hH hu (br_f (by decide) (cx_broken_f (by omega) hb (br_t rfl (nm_r (nI_1 j) (hX P hP)))))), fun P hP => cy_cstep_u (by omega) hE hu (cy_c99_1 ?_)⟩
        rw [z0, z1]
        rcases G0 with ⟨f0, e0⟩ | ⟨f0, e0⟩ <;> rcases G1 with ⟨f1, e1⟩ | ⟨f1, e1⟩
        · exact absurd ⟨f0, f1⟩ hb
        · rw [e0, e1, cw_d10]
          exact hY P hP
        · rw [e0, e1, cw_d01]
          exact hY P hP
        · rw [e0, e1, cw_d00]
          exact hY P hP
    · obtain ⟨r, hX, hY⟩ := ih (j + 1) c (by omega)
      exact ⟨r, fun P hP => br_f h (cx_used_z (by omega) hH hu (br_t rfl (nm_r (nI_1 j) (hX P hP)))), fun P hP => cy_cstep_z (by omega) hE hu (hY P hP)⟩
theorem cx_bc_end {P : Int32 → Prop} {J : Int32 → Int32 → Prop} {c : Int32} {j n : Nat} (h : J c (nI (j + 1))) : wX_countBadCopies_12 P J (nI j) fs fh fl th wr bk hc va go lo sp sv sh sd (n + 1) c (nI 2) := br_t (show (2 : Int32) ≤ nI 2 by decide) (nm_r (nI_1 j) h)
theorem cx_bc_z {P : Int32 → Prop} {J : Int32 → Int32 → Prop} {g : Nat → Nat} {c : Int32} {j n d : Nat} (hd : d < 2) (hj : j < 80) (hH : cw_HC g hc) (hu : ¬ 0 < cw_C g (j + 1)) (h : wX_countBadCopies_12 P J (nI j) fs fh fl th wr bk hc va go lo sp sv sh sd n c (nI (d + 1))) : wX_countBadCopies_12 P J (nI j) fs fh fl th wr bk hc va go lo sp sv sh sd (n + 1) c (nI d) :=
  br_f (nI_ge (b := 2) hd (by decide)) (cx_used_z hj hH hu (br_t rfl (nm_r (nI_1 d) h)))
theorem cx_bc_g {P : Int32 → Prop} {J : Int32 → Int32 → Prop} {g : Nat → Nat} {c : Int32} {j n d i : Nat} (hd : d < 2) (hj : j < 80) (hi : 80 * d + j = i) (hH : cw_HC g hc) (hu : 0 < cw_C g (j + 1)) (hg : ¬ go i = 0) (h : wX_countBadCopies_12 P J (nI j) fs fh fl th wr bk hc va go lo sp sv sh sd n c (nI (d + 1))) : wX_countBadCopies_12 P J (nI j) fs fh fl th wr bk hc va go lo sp sv sh sd (n + 1) c (nI d) := by
  unfold wX_countBadCopies_12
  rw [cw_ix3, hi, cw_cl (n := i) (by omega)]
  exact br_f (nI_ge (b := 2) hd (by decide)) (cx_used_t hj hH hu (br_f (by decide) ⟨cw_in (by omega) (by decide), br_f hg (nm_r (nI_1 d) h)⟩))
theorem cx_bc_b {P : Int32 → Prop} {J : Int32 → Int32 → Prop} {g : Nat → Nat} {c : Int32} {j n d i : Nat} (hd : d < 2) (hj : j < 80) (hi : 80 * d + j = i) (hH : cw_HC g hc) (hu : 0 < cw_C g (j + 1)) (hg : go i = 0) (h : wX_countBadCopies_12 P J (nI j) fs fh fl th wr bk hc va go lo sp sv sh sd n (c + 1) (nI (d + 1))) : wX_countBadCopies_12 P J (nI j) fs fh fl th wr bk hc va go lo sp sv sh sd (n + 1) c (nI d) := by
  unfold wX_countBadCopies_12
  rw [cw_ix3, hi, cw_cl (n := i) (by omega)]
  exact br_f (nI_ge (b := 2) hd (by decide)) (cx_used_t hj hH hu (br_f (by decide) ⟨cw_in (by omega) (by decide), br_t hg (nm_e (nm_r (nI_1 d) h))⟩))
theorem cj_count2 {g : Nat → Nat} (hH : cw_HC g hc) (hE : cw_HE g he) (hR : cw_RG g go ba) : ∀ (d j : Nat) (c : Int32), j + d = 80 →
    ∃ r, (∀ P : Int32 → Prop, P r → wX_countBadCopies_4 P fs fh fl th wr bk hc va go lo sp sv sh sd (d + 1) c (nI j)) ∧ (∀ P : Int32 → SY → Prop, P r (fs, fh, fl, th, fr, ha, be, va, ba, lo, sV, he, sp, sh) → wY_count_48 P 2 fs fh fl th fr ha be va ba lo sV he sp sh (d + 1) c (nI j)) := by
  intro d
  induction d with
  | zero =>
    intro j c hj
    obtain rfl : j = 80 := by omega
    exact ⟨c, fun P hP => br_t (show (80 : Int32) ≤ nI 80 by decide) hP, fun P hP => cy_cend hP⟩
  | succ d ih =>
    intro j c hj
    have hj80 : j < 80 := by omega
    have h : ¬ (80 : Int32) ≤ nI j := nI_ge (b := 80) (by omega) (by decide)
    have i0 : 80 * 0 + j = j := by omega
    have i1 : 80 * 1 + j = 80 + j := by omega
    by_cases hu : 0 < cw_C g (j + 1)
    · obtain ⟨G0, G1⟩ := hR j hj80 hu
      have z0 := cw_zb_G G0
      have z1 := cw_zb_G G1
      obtain ⟨r, hX, hY⟩ := ih (j + 1) (c + (ba j + ba (80 + j))) (by omega)
      refine ⟨r, fun P hP => br_f h ⟨3, ?_⟩, fun P hP => cy_cstep_u hj80 hE hu (cy_c99_2 ?_)⟩
      · have hX' := hX P hP
        rcases G0 with ⟨f0, e0⟩ | ⟨f0, e0⟩ <;> rcases G1 with ⟨f1, e1⟩ | ⟨f1, e1⟩ <;> rw [e0, e1] at hX'
        · rw [show c + ((1 : Int32) + 1) = c + 1 + 1 from (Int32.add_assoc _ _ _).symm] at hX'
          exact cx_bc_b (d := 0) (by decide) hj80 i0 hH hu f0 (cx_bc_b (d := 1) (by decide) hj80 i1 hH hu f1 (cx_bc_end hX'))
        · rw [show (1 : Int32) + 0 = 1 by decide] at hX'
          exact cx_bc_b (d := 0) (by decide) hj80 i0 hH hu f0 (cx_bc_g (d := 1) (by decide) hj80 i1 hH hu (by rw [f1]; decide) (cx_bc_end hX'))
        · rw [show (0 : Int32) + 1 = 1 by decide] at hX'
          exact cx_bc_g (d := 0) (by decide) hj80 i0 hH hu (by rw [f0]; decide) (cx_bc_b (d := 1) (by decide) hj80 i1 hH hu f1 (cx_bc_end hX'))
        · rw [show (0 : Int32) + 0 = 0 by decide, Int32.add_zero] at hX'
          exact cx_bc_g (d := 0) (by decide) hj80 i0 hH hu (by rw [f0]; decide) (cx_bc_g (d := 1) (by decide) hj80 i1 hH hu (by rw [f1]; decide) (cx_bc_end hX'))
      · rw [z0, z1]
        exact hY P hP
    · obtain ⟨r, hX, hY⟩ := ih (j + 1) c (by omega)
      exact ⟨r, fun P hP => br_f h ⟨3, cx_bc_z (d := 0) (by decide) hj80 hH hu (cx_bc_z (d := 1) (by decide) hj80 hH hu (cx_bc_end (hX P hP)))⟩, fun P hP => cy_cstep_z hj80 hE hu (hY P hP)⟩
theorem i_vc_count {k : Nat} {u : SX} {v : SY} (I : i_Rel k u v) (hk : k + 6 ≤ 3072) (v1 : Int32) : wpX_count (fun r => wpY_count (fun r' v' => r' = r ∧ i_Rel (k + 6) u v') v v1) u v1 := by
  obtain ⟨g, s, h, l, th, wr, bk, hc, va, go, lo, sp, sv, sh, sd, fr, ha, be, ba, sV, he, rfl, rfl, hs, hh, hl, hW, hB, hH, hA, hG, hL, hS, hV⟩ := I
  unfold wpX_count wpY_count
  dsimp only
  obtain ⟨he', hE, hT⟩ := cy_tally (fs := nI s) (fh := nI h) (fl := nI l) (fr := fr) (be := be) (va := va) (ba := ba) (lo := lo) (sV := sV) (he := he) (sp := sp) (sh := sh) hA (cw_g80 hB)
  by_cases h1 : cw_lt 6 v1
  · obtain ⟨n, hn, rfl⟩ := h1
    refine br_f (nI_pos (by omega)) (br_f (nI_nlt (a := 5) (b := n) (by omega) (by decide)) ?_)
    rcases (show n = 0 ∨ n = 1 ∨ n = 2 ∨ n = 3 ∨ n = 4 ∨ n = 5 by omega) with e | e | e | e | e | e <;> subst e
    · obtain ⟨r, hX, hY⟩ := cj_count0 (fs := nI s) (fh := nI h) (fl := nI l) (th := th) (wr := wr) (bk := bk) (va := va) (go := go) (lo := lo) (sp := sp) (sv := sv) (sh := sh) (sd := sd) (fr := fr) (ha := ha) (be := be) (ba := ba) (sV := sV) hH hE 80 0 0 rfl
      exact br_t rfl ⟨81, hX _ (br_f (by decide) (br_f (by decide) (br_f (by decide) (cy_out_t (n := 3) (by decide) (by decide) (br_t rfl (hT _ ⟨81, hY _ ⟨rfl, cw_mk ⟨hs, hh, hl, hW, hB, hH, hA, hG, hL, hS, hV⟩⟩⟩))))))⟩
    · obtain ⟨r, hX, hY⟩ := cj_count1 (fs := nI s) (fh := nI h) (fl := nI l) (th := th) (wr := wr) (bk := bk) (va := va) (lo := lo) (sp := sp) (sv := sv) (sh := sh) (sd := sd) (fr := fr) (ha := ha) (be := be) (sV := sV) hH hE hG 80 0 0 rfl
      exact br_f (by decide) (br_t rfl ⟨81, hX _ (br_f (by decide) (br_f (by decide) (br_f (by decide) (cy_out_t (n := 3) (by decide) (by decide) (br_t rfl (hT _ ⟨81, hY _ ⟨rfl, cw_mk ⟨hs, hh, hl, hW, hB, hH, hA, hG, hL, hS, hV⟩⟩⟩))))))⟩)
    · obtain ⟨r, hX, hY⟩ := cj_count2 (fs := nI s) (fh := nI h) (fl := nI l) (th := th) (wr := wr) (bk := bk) (va := va) (lo := lo) (sp := sp) (sv := sv) (sh := sh) (sd := sd) (fr := fr) (ha := ha) (be := be) (sV := sV) hH hE hG 80 0 0 rfl
      exact br_f (by decide) (br_f (by decide) (br_t rfl ⟨81, hX _ (br_f (by decide) (br_f (by decide) (br_f (by decide) (cy_out_t (n := 3) (by decide) (by decide) (br_t rfl (hT _ ⟨81, hY _ ⟨rfl, cw_mk ⟨hs, hh, hl, hW, hB, hH, hA, hG, hL, hS, hV⟩⟩⟩))))))⟩))
    · exact br_f (by decide) (br_f (by decide) (br_f (by decide) (br_t rfl (br_t rfl ⟨rfl, cw_mk ⟨hs, hh, hl, hW, hB, hH, hA, hG, hL, hS, hV⟩⟩))))
    · exact br_f (by decide) (br_f (by decide) (br_f (by decide) (br_f (by decide) (br_t rfl (br_f (by decide) (br_t rfl ⟨rfl, cw_mk ⟨hs, hh, hl, hW, hB, hH, hA, hG, hL, hS, hV⟩⟩))))))
    · exact br_f (by decide) (br_f (by decide) (br_f (by decide) (br_f (by decide) (br_f (by decide) (br_t rfl (br_f (by decide) (br_f (by decide) (br_t rfl ⟨rfl, cw_mk ⟨hs, hh, hl, hW, hB, hH, hA, hG, hL, hS, hV⟩⟩))))))))
  · have hne : ∀ n, n < 6 → ¬ v1 = nI n := fun n hn e => h1 ⟨n, hn, e⟩
    have h3 : ¬ cw_lt 3 v1 := fun ⟨j, hj, e⟩ => h1 ⟨j, by omega, e⟩
    have hY : wpY_count (fun r' v' => r' = -1 ∧ i_Rel (k + 6) (nI s, nI h, nI l, th, wr, bk, hc, va, go, lo, sp, sv, sh, sd) v') (nI s, nI h, nI l, th, fr, ha, be, va, ba, lo, sV, he, sp, sh) v1 := by
      unfold wpY_count
      dsimp only
      exact br_f (hne 3 (by decide)) (br_f (hne 4 (by decide)) (br_f (hne 5 (by decide)) (cy_out_f (n := 3) h3 (by decide) (br_f (by decide) ⟨rfl, cw_mk ⟨hs, hh, hl, hW, hB, hH, hA, hG, hL, hS, hV⟩⟩))))
    rcases pk_ix v1 (n := 6) (by decide) with h2 | h2 | h2
    · exact br_t h2 hY
    · exact br_c (fun _ => hY) (fun _ => br_t (Int32.lt_of_lt_of_le (show (5 : Int32) < nI 6 by decide) h2) hY)
    · exact absurd h2 h1
end
end
section
section
variable {fs fh fl : Int32} {th wr bk hc va go lo sp sv sh sd fr ha be ba sV he : Nat → Int32}
/-- how often c stands in volume v's first j places -/
def cw_hr (g : Nat → Nat) (v c j : Nat) : Nat := cw_sum (fun p => if g (64 * v + p) = c then 1 else 0) j
theorem cw_hr_le (g : Nat → Nat) (v c j : Nat) : cw_hr g v c j ≤ j := by
  have := cw_sum_le (f := fun p => if g (64 * v + p) = c then 1 else 0) (M := 1) (fun x => cw_i1 _ _) j
  unfold cw_hr
  omega
theorem cw_hr_s (g : Nat → Nat) (v c j : Nat) : cw_hr g v c (j + 1) = cw_hr g v c j + (if g (64 * v + j) = c then 1 else 0) := rfl
/-- block b is held by v alone -/
def cw_fo (g : Nat → Nat) (v : Nat) : Nat → Nat := fun b => if 0 < cw_C g (b + 1) ∧ cw_hr g v (b + 1) 64 = cw_C g (b + 1) then 1 else 0
theorem cw_fo_s (g : Nat → Nat) (v j : Nat) : cw_sum (cw_fo g v) (j + 1) = cw_sum (cw_fo g v) j + cw_fo g v j := rfl
theorem cx_hw5 {g : Nat → Nat} {v b : Nat} (hv : v < 6) (hb : b < 80) (hB : cw_BK g bk) {P : Int32 → Prop} (hP : P (nI (cw_hr g v (b + 1) 64))) : ∀ d j : Nat, j + d = 64 → wX_holdersWithin_5 P (nI v) (nI b) fs fh fl th wr bk hc va go lo sp sv sh sd (d + 1) (nI (cw_hr g v (b + 1) j)) (nI j) := by
  intro d
  induction d with
  | zero =>
    intro j hj
    obtain rfl : j = 64 := by omega
    exact br_t (show (64 : Int32) ≤ nI 64 by decide) hP
  | succ d ih =>
    intro j hj
    obtain ⟨g80, eB⟩ := hB (64 * v + j) (by omega)
    have ih' := ih (j + 1) (by omega)
    rw [cw_hr_s] at ih'
    unfold wX_holdersWithin_5
    rw [cw_ix1, cw_cl (n := 64 * v + j) (by omega), eB, ← cw_p1 b, cw_eq (by omega) (by omega)]
    refine br_f (nI_ge (b := 64) (by omega) (by decide)) ⟨cw_in (by omega) (by decide), ?_⟩
    rw [cw_p1 b]
    by_cases e : g (64 * v + j) = b + 1
    · rw [if_pos e] at ih'
      exact br_t e (nm_r (nI_1 _) (nm_r (nI_1 j) ih'))
    · rw [if_neg e] at ih'
      exact br_f e (nm_r (nI_1 j) ih')
theorem cx_own14 {g : Nat → Nat} {v : Nat} (hv : v < 6) (hB : cw_BK g bk) (hH : cw_HC g hc) {P : Int32 → Prop} (hP : P (nI (cw_sum (cw_fo g v) 80))) : ∀ d j : Nat, j + d = 80 → wX_own_14 P (nI v) fs fh fl th wr bk hc va go lo sp sv sh sd (d + 1) (nI (cw_sum (cw_fo g v) j)) (nI j) := by
  intro d
  induction d with
  | zero =>
    intro j hj
    obtain rfl : j = 80 := by omega
    exact br_t (show (80 : Int32) ≤ nI 80 by decide) hP
  | succ d ih =>
    intro j hj
    have hj80 : j < 80 := by omega
    have ih' := ih (j + 1) (by omega)
    rw [cw_fo_s] at ih'
    have hl := cw_C_le g (j + 1)
    have hl2 := cw_hr_le g v (j + 1) 64
    have h : ¬ (80 : Int32) ≤ nI j := nI_ge (b := 80) (by omega) (by decide)
    unfold wX_own_14
    rw [cw_cl (n := j) (by omega), hH j hj80]
    by_cases hu : 0 < cw_C g (j + 1)
    · refine br_f h (cx_used_t hj80 hH hu (br_f (by decide) ⟨65, cx_hw5 hv hj80 hB ?_ 64 0 rfl⟩))
      refine ⟨cw_in hj80 (by decide), ?_⟩
      rw [nI_eq (by omega) (by omega)]
      unfold cw_fo at ih'
      by_cases e : cw_hr g v (j + 1) 64 = cw_C g (j + 1)
      · rw [if_pos ⟨hu, e⟩] at ih'
        exact br_t e (nm_r (nI_1 _) (nm_r (nI_1 j) ih'))
      · rw [if_neg (fun z => e z.2)] at ih'
        exact br_f e (nm_r (nI_1 j) ih')
    · unfold cw_fo at ih'
      rw [if_neg (fun z => hu z.1)] at ih'
      exact br_f h (cx_used_z hj80 hH hu (br_t rfl (nm_r (nI_1 j) ih')))
theorem cy_own30 {g : Nat → Nat} {v b : Nat} {c : Int32} (hv : v < 6) (ht : ¬ th v = 0) (hb : b < 80) (hg : ∀ x, x < 384 → g x ≤ 80) (hA : cw_HA th g ha) (hE : cw_HE g he) {P : Int32 → SY → Prop} {J : Int32 → Int32 → Prop} (hP : J (c + nI (cw_fo g v b)) (nI (b + 1))) : ∀ d j : Nat, j + d = 64 → wY_own_30 P J (nI v) c (nI b) fs fh fl th fr ha be va ba lo sV he sp sh (d + 1) (nI (cw_hr g v (b + 1) j)) (nI j) := by
  intro d
  have hl := cw_C_le g (b + 1)
  have hl2 := cw_hr_le g v (b + 1) 64
  induction d with
  | zero =>
    intro j hj
    obtain rfl : j = 64 := by omega
    unfold wY_own_30
    rw [nI_1 b, cw_cl (n := b + 1) (by omega), hE b hb, cw_zl (by omega), nI_eq (by omega) (by omega)]
    unfold cw_fo at hP
    refine br_t (by decide) ?_
    by_cases h0 : cw_hr g v (b + 1) 64 = 0
    · rw [if_neg (by omega), nI_0, Int32.add_zero] at hP
      exact br_t h0 (nm_e hP)
    · refine br_f h0 ⟨cw_in (by omega) (by decide), ?_⟩
      by_cases e : cw_hr g v (b + 1) 64 = cw_C g (b + 1)
      · rw [if_pos ⟨by omega, e⟩] at hP
        exact br_t e (nm_e (nm_e hP))
      · rw [if_neg (fun z => e z.2), nI_0, Int32.add_zero] at hP
        exact br_f e (nm_e hP)
  | succ d ih =>
    intro j hj
    have g80 := hg (64 * v + j) (by omega)
    have eA := cw_ha_at hA hv ht (p := j) (by omega)
    have ih' := ih (j + 1) (by omega)
    rw [cw_hr_s] at ih'
    unfold wY_own_30
    rw [cw_ix2, cw_cl (n := 64 * v + j) (by omega), eA, nI_1 b, nI_eq (by omega) (by omega)]
    refine br_f (nI_ge (b := 64) (by omega) (by decide)) ⟨cw_in (by omega) (by decide), ?_⟩
    by_cases e : g (64 * v + j) = b + 1
    · rw [if_pos e] at ih'
      exact br_t e (nm_r (nI_1 _) (nm_r (nI_1 j) ih'))
    · rw [if_neg e] at ih'
      exact br_f e (nm_r (nI_1 j) ih')
theorem cy_own18 {g : Nat → Nat} {v : Nat} (hv : v < 6) (ht : ¬ th v = 0) (hg : ∀ x, x < 384 → g x ≤ 80) (hA : cw_HA th g ha) (hE : cw_HE g he) {P : Int32 → SY → Prop} (hP : P (nI (cw_sum (cw_fo g v) 80)) (fs, fh, fl, th, fr, ha, be, va, ba, lo, sV, he, sp, sh)) : ∀ d j : Nat, j + d = 80 → wY_own_18 P (nI v) fs fh fl th fr ha be va ba lo sV he sp sh (d + 1) (nI (cw_sum (cw_fo g v) j)) (nI j) := by
  intro d
  induction d with
  | zero =>
    intro j hj
    obtain rfl : j = 80 := by omega
    exact br_t (show (80 : Int32) ≤ nI 80 by decide) hP
  | succ d ih =>
    intro j hj
    have ih' := ih (j + 1) (by omega)
    rw [cw_fo_s, ← nI_add] at ih'
    exact br_f (nI_ge (b := 80) (by omega) (by decide)) ⟨65, cy_own30 hv ht (by omega) hg hA hE ih' 64 0 rfl⟩
theorem cy_own {g : Nat → Nat} {v : Nat} (hv : v < 6) (ht : ¬ th v = 0) (hg : ∀ x, x < 384 → g x ≤ 80) (hA : cw_HA th g ha) : ∃ he' : Nat → Int32, ∀ P : Int32 → SY → Prop, P (nI (cw_sum (cw_fo g v) 80)) (fs, fh, fl, th, fr, ha, be, va, ba, lo, sV, he', sp, sh) → wpY_own P (fs, fh, fl, th, fr, ha, be, va, ba, lo, sV, he, sp, sh) (nI v) := by
  obtain ⟨he', hE, hT⟩ := cy_tally (fs := fs) (fh := fh) (fl := fl) (fr := fr) (be := be) (va := va) (ba := ba) (lo := lo) (sV := sV) (he := he) (sp := sp) (sh := sh) hA hg
  refine ⟨he', fun P hP => ?_⟩
  unfold wpY_own
  dsimp only
  exact cy_is_t hv ht (br_f (by decide) (hT _ ⟨81, cy_own18 hv ht hg hA hE hP 80 0 rfl⟩))
theorem i_vc_own {k : Nat} {u : SX} {v : SY} (I : i_Rel k u v) (hk : k + 6 ≤ 3072) (v1 : Int32) : wpX_own (fun r => wpY_own (fun r' v' => r' = r ∧ i_Rel (k + 6) u v') v v1) u v1 := by
  obtain ⟨g, s, h, l, th, wr, bk, hc, va, go, lo, sp, sv, sh, sd, fr, ha, be, ba, sV, he, rfl, rfl, hs, hh, hl, hW, hB, hH, hA, hG, hL, hS, hV⟩ := I
  unfold wpX_own
  dsimp only
  by_cases h1 : cw_is th v1
  · obtain ⟨a, ha6, rfl, hta⟩ := h1
    obtain ⟨he', hY⟩ := cy_own (fs := nI s) (fh := nI h) (fl := nI l) (fr := fr) (be := be) (va := va) (ba := ba) (lo := lo) (sV := sV) (he := he) (sp := sp) (sh := sh) ha6 hta (cw_g80 hB) hA
    exact cx_is_t ha6 hta (br_f (by decide) ⟨81, cx_own14 ha6 hB hH (hY _ ⟨rfl, cw_mk ⟨hs, hh, hl, hW, hB, hH, hA, hG, hL, hS, hV⟩⟩) 80 0 rfl⟩)
  · refine cx_is_f h1 (br_t rfl ?_)
    unfold wpY_own
    dsimp only
    exact cy_is_f h1 (br_t rfl ⟨rfl, cw_mk ⟨hs, hh, hl, hW, hB, hH, hA, hG, hL, hS, hV⟩⟩)
/-! destroy -/
def cw_ff (g : Nat → Nat) (v j : Nat) : Nat → Nat := fun b => if 0 < cw_C g (b + 1) ∧ cw_C (cw_z g (64 * v) j) (b + 1) = 0 then 1 else 0
theorem cw_z_hr {g : Nat → Nat} {v c : Nat} (hv : v < 6) (hc : 0 < c) : ∀ j, j ≤ 64 → cw_C g c = cw_C (cw_z g (64 * v) j) c + cw_hr g v c j := by
  intro j
  induction j with
  | zero =>
    intro _
    rw [cw_z_0]
    rfl
  | succ j ih =>
    intro hj
    have ih' := ih (by omega)
    have key := cw_C_up (g := cw_z g (64 * v) j) (x := 64 * v + j) (e := 0) (by omega) c
    rw [cw_z_at, if_neg (show ¬ 0 = c by omega)] at key
    rw [cw_z_s, cw_hr_s]
    omega
theorem cw_ff_fo {g : Nat → Nat} {v : Nat} (hv : v < 6) : cw_sum (cw_ff g v 64) 80 = cw_sum (cw_fo g v) 80 := by
  apply cw_sum_congr
  intro b _
  have h := cw_z_hr (g := g) (c := b + 1) hv (by omega) 64 (by omega)
  unfold cw_ff cw_fo
  by_cases e : 0 < cw_C g (b + 1) ∧ cw_C (cw_z g (64 * v) 64) (b + 1) = 0
  · rw [if_pos e, if_pos ⟨e.1, by omega⟩]
  · rw [if_neg e, if_neg (fun z => e ⟨z.1, by omega⟩)]
theorem cw_ff_0 (g : Nat → Nat) (v : Nat) : cw_sum (cw_ff g v 0) 80 = 0 := by
  apply Classical.byContradiction
  intro h
  obtain ⟨b, _, hb⟩ := (cw_sum_pos 80).mp (Nat.pos_of_ne_zero h)
  unfold cw_ff at hb
  rw [cw_z_0] at hb
  rw [if_neg (by omega)] at hb
  exact absurd hb (Nat.lt_irrefl 0)
theorem cw_ff_s {g : Nat → Nat} {v j : Nat} (hv : v < 6) (hj : j < 64) (hg : ∀ x, x < 384 → g x ≤ 80) : cw_sum (cw_ff g v (j + 1)) 80 = cw_sum (cw_ff g v j) 80 + cw_pr (cw_z g (64 * v) j) (64 * v + j) 0 := by
  have hx : 64 * v + j < 384 := by omega
  have key := fun c => cw_C_up (g := cw_z g (64 * v) j) (x := 64 * v + j) (e := 0) hx c
  unfold cw_pr
  rw [cw_z_at] at key
  rw [cw_z_at]
  by_cases h0 : g (64 * v + j) = 0
  · rw [if_neg (fun z => z.1 h0), Nat.add_zero (cw_sum (cw_ff g v j) 80)]
    apply cw_sum_congr
    intro b _
    have k := key (b + 1)
    rw [if_neg (show ¬ g (64 * v + j) = b + 1 by omega), if_neg (show ¬ 0 = b + 1 by omega), ← cw_z_s] at k
    unfold cw_ff
    rw [show cw_C (cw_z g (64 * v) (j + 1)) (b + 1) = cw_C (cw_z g (64 * v) j) (b + 1) by omega]
  · have g80 := hg _ hx
    obtain ⟨c, ec⟩ : ∃ c, g (64 * v + j) = c + 1 := ⟨g (64 * v + j) - 1, by omega⟩
    have hu : 0 < cw_C g (c + 1) := cw_used hx ec
    rw [ec] at key ⊢
    have hp := cw_sum_pt (f := cw_ff g v j) (f' := cw_ff g v (j + 1)) (x := c) (fun b hb => by
      have k := key (b + 1)
      rw [if_neg (show ¬ c + 1 = b + 1 by omega), if_neg (show ¬ 0 = b + 1 by omega), ← cw_z_s] at k
      unfold cw_ff
      rw [show cw_C (cw_z g (64 * v) (j + 1)) (b + 1) = cw_C (cw_z g (64 * v) j) (b + 1) by omega]) 80 (by omega)
    have k := key (c + 1)
    rw [if_pos rfl, if_neg (show ¬ 0 = c + 1 by omega)] at k
    have e1 : cw_ff g v j c = 0 := if_neg (by omega)
    have e2 : cw_ff g v (j + 1) c = if ¬ c + 1 = 0 ∧ cw_C (cw_up (cw_z g (64 * v) j) (64 * v + j) 0) (c + 1) = 0 then 1 else 0 := by
      unfold cw_ff
      rw [cw_z_s]
      by_cases hz : cw_C (cw_up (cw_z g (64 * v) j) (64 * v + j) 0) (c + 1) = 0
      · rw [if_pos ⟨hu, hz⟩, if_pos ⟨by omega, hz⟩]
      · rw [if_neg (fun z => hz z.2), if_neg (fun z => hz z.2)]
    rw [← e2]
    omega
theorem cx_punch {g : Nat → Nat} {v p : Nat} (hv : v < 6) (hp : p < 64) (hb : cw_BK g bk) (hh : cw_HC g hc) :
    ∃ bk' hc', cw_BK (cw_up g (64 * v + p) 0) bk' ∧ cw_HC (cw_up g (64 * v + p) 0) hc' ∧ ∀ P : Int32 → SX → Prop, P (nI (cw_pr g (64 * v + p) 0)) (fs, fh, fl, th, wr, bk', hc', va, go, lo, sp, sv, sh, sd) → wpX_putBlock P (fs, fh, fl, th, wr, bk, hc, va, go, lo, sp, sv, sh, sd) (nI v) (nI p) (-1) := by
  obtain ⟨bk', hc', h1, h2, h3⟩ := cx_put (fs := fs) (fh := fh) (fl := fl) (th := th) (wr := wr) (va := va) (go := go) (lo := lo) (sp := sp) (sv := sv) (sh := sh) (sd := sd) (e := 0) hv hp (by omega) hb hh
  exact ⟨bk', hc', h1, h2, fun P hP => by have := h3 P hP; rw [cw_em1] at this; exact this⟩
theorem cx_des14 {g : Nat → Nat} {v : Nat} (hv : v < 6) (hg : ∀ x, x < 384 → g x ≤ 80) : ∀ (d j : Nat) (bk hc : Nat → Int32), j + d = 64 → cw_BK (cw_z g (64 * v) j) bk → cw_HC (cw_z g (64 * v) j) hc →
    ∃ bk' hc', cw_BK (cw_z g (64 * v) 64) bk' ∧ cw_HC (cw_z g (64 * v) 64) hc' ∧ ∀ P : Int32 → SX → Prop, P (nI (cw_sum (cw_fo g v) 80)) (fs, fh, fl, upd th v 0, wr, bk', hc', va, go, lo, sp, sv, sh, sd) → wX_destroy_14 P (nI v) (d + 1) (nI (cw_sum (cw_ff g v j) 80)) (nI j) fs fh fl th wr bk hc va go lo sp sv sh sd := by
  intro d
  induction d with
  | zero =>
    intro j bk hc hj hB hH
    obtain rfl : j = 64 := by omega
    refine ⟨bk, hc, hB, hH, fun P hP => ?_⟩
    unfold wX_destroy_14
    rw [cw_cl (n := v) (by omega), cw_b0, cw_ff_fo hv]
    exact br_t (by decide) ⟨cw_in hv (by decide), nm_e hP⟩
  | succ d ih =>
    intro j bk hc hj hB hH
    obtain ⟨bk1, hc1, hB1, hH1, hT1⟩ := cx_punch (fs := fs) (fh := fh) (fl := fl) (th := th) (wr := wr) (va := va) (go := go) (lo := lo) (sp := sp) (sv := sv) (sh := sh) (sd := sd) (p := j) hv (by omega) hB hH
    rw [← cw_z_s] at hB1 hH1
    obtain ⟨bk2, hc2, hB2, hH2, hT2⟩ := ih (j + 1) bk1 hc1 (by omega) hB1 hH1
    refine ⟨bk2, hc2, hB2, hH2, fun P hP => br_f (nI_ge (b := 64) (by omega) (by decide)) (hT1 _ (nm_r ?_ (nm_r (nI_1 j) (hT2 P hP))))⟩
    rw [nI_add, cw_ff_s hv (by omega) hg]
theorem cw_RG_sub {g g' : Nat → Nat} (hR : cw_RG g go ba) (h : ∀ b, b < 80 → 0 < cw_C g' (b + 1) → 0 < cw_C g (b + 1)) : cw_RG g' go ba := fun b hb hu => hR b hb (h b hb hu)
theorem i_vc_destroy {k : Nat} {u : SX} {v : SY} (I : i_Rel k u v) (hk : k + 6 ≤ 3072) (v1 : Int32) : wpX_destroy (fun r u' => wpY_destroy (fun r' v' => r' = r ∧ i_Rel (k + 6) u' v') v v1) u v1 := by
  obtain ⟨g, s, h, l, th, wr, bk, hc, va, go, lo, sp, sv, sh, sd, fr, ha, be, ba, sV, he, rfl, rfl, hs, hh, hl, hW, hB, hH, hA, hG, hL, hS, hV⟩ := I
  unfold wpX_destroy
  dsimp only
  by_cases h1 : cw_is th v1
  · obtain ⟨a, ha6, rfl, hta⟩ := h1
    obtain ⟨he', hY⟩ := cy_own (fs := nI s) (fh := nI h) (fl := nI l) (fr := fr) (be := be) (va := va) (ba := ba) (lo := lo) (sV := sV) (he := he) (sp := sp) (sh := sh) ha6 hta (cw_g80 hB) hA
    obtain ⟨bk', hc', hB', hH', hT⟩ := cx_des14 (fs := nI s) (fh := nI h) (fl := nI l) (th := th) (wr := wr) (va := va) (go := go) (lo := lo) (sp := sp) (sv := sv) (sh := sh) (sd := sd) (g := g) ha6 (cw_g80 hB) 64 0 bk hc rfl (by rw [cw_z_0]; exact hB) (by rw [cw_z_0]; exact hH)
    rw [cw_ff_0] at hT
    refine cx_is_t ha6 hta (br_f (by decide) ⟨65, hT _ ?_⟩)
    unfold wpY_destroy
    dsimp only
    rw [cw_cl (n := a) (by omega), cw_b0]
    refine cy_is_t ha6 hta (br_f (by decide) (hY _ ⟨cw_in ha6 (by decide), nm_e ⟨rfl, cw_mk ⟨hs, hh, hl, fun w hw ht => ?_, hB', hH', fun x hx => ?_, cw_RG_sub hG (fun b hb hu => ?_), hL, hS, hV⟩⟩⟩))
    · by_cases e : w = a
      · rw [e, pk_us] at ht
        exact absurd rfl ht
      · rw [pk_un e] at ht
        exact hW w hw ht
    · by_cases e : x / 64 = a
      · rw [e, pk_us]
        exact ⟨fun _ => cw_z_in (by omega), fun z => absurd rfl z⟩
      · rw [pk_un e, cw_z_out (by omega)]
        exact hA x hx
    · have := cw_z_hr (g := g) (v := a) (c := b + 1) ha6 (by omega) 64 (by omega)
      omega
  · refine cx_is_f h1 (br_t rfl ?_)
    unfold wpY_destroy
    dsimp only
    exact cy_is_f h1 (br_t rfl ⟨rfl, cw_mk ⟨hs, hh, hl, hW, hB, hH, hA, hG, hL, hS, hV⟩⟩)
end
end
section
section
variable {fs fh fl : Int32} {th wr bk hc va go lo sp sv sh sd fr ha be ba sV he : Nat → Int32}
theorem cw_HA_up {g : Nat → Nat} {v p e : Nat} (ht : ¬ th v = 0) (hp : p < 64) (hA : cw_HA th g ha) : cw_HA th (cw_up g (64 * v + p) e) (upd ha (64 * v + p) (nI e)) := by
  intro x hx
  by_cases q : x = 64 * v + p
  · rw [q, cw_up_s, pk_us, show (64 * v + p) / 64 = v by omega]
    exact ⟨fun z => absurd z ht, fun _ => rfl⟩
  · rw [cw_up_n q, pk_un q]
    exact hA x hx
theorem cx_w27s {P : Int32 → SX → Prop} {v p b d i n : Nat} (hb : b < 80) (hd : d < 2) (hi : 80 * d + b = i) (h : wX_writeValue_27 P (nI v) (nI p) (nI b) fs fh fl n (nI (d + 1)) th wr bk hc va (upd go i (if lo d = 0 then 1 else 0)) lo sp sv sh sd) : wX_writeValue_27 P (nI v) (nI p) (nI b) fs fh fl (n + 1) (nI d) th wr bk hc va go lo sp sv sh sd := by
  unfold wX_writeValue_27
  rw [cw_ix3, hi, cw_cl (n := i) (by omega), cw_cl (n := d) (by omega), cw_b0, cw_b1]
  refine br_f (nI_ge (b := 2) hd (by decide)) ⟨cw_in hd (by decide), ?_⟩
  by_cases hl : lo d = 0
  · rw [if_pos hl] at h
    exact br_t hl ⟨cw_in (by omega) (by decide), nm_e (nm_r (nI_1 d) h)⟩
  · rw [if_neg hl] at h
    exact br_f hl ⟨cw_in (by omega) (by decide), nm_e (nm_r (nI_1 d) h)⟩
theorem cw_G_lo {a : Int32} (h : a = 0 ∨ a = 1) : cw_G (if a = 0 then 1 else 0) a := by
  rcases h with h | h <;> subst h
  · exact Or.inr ⟨rfl, rfl⟩
  · exact Or.inl ⟨rfl, rfl⟩
theorem cw_RG_wr {g : Nat → Nat} {x b : Nat} (hx : x < 384) (hb : b < 80) (hL : ∀ d, d < 2 → lo d = 0 ∨ lo d = 1) (hR : cw_RG g go ba) : cw_RG (cw_up g x (b + 1)) (upd (upd go b (if lo 0 = 0 then 1 else 0)) (80 + b) (if lo 1 = 0 then 1 else 0)) (upd (upd ba b (lo 0)) (80 + b) (lo 1)) := by
  intro c hc hu
  by_cases e : c = b
  · subst e
    rw [pk_us, pk_us, pk_un (show c ≠ 80 + c by omega), pk_un (show c ≠ 80 + c by omega), pk_us, pk_us]
    exact ⟨cw_G_lo (hL 0 (by decide)), cw_G_lo (hL 1 (by decide))⟩
  · have key := cw_C_up (g := g) (e := b + 1) hx (c + 1)
    rw [if_neg (show ¬ b + 1 = c + 1 by omega)] at key
    rw [pk_un (show c ≠ 80 + b by omega), pk_un (show c ≠ 80 + b by omega), pk_un e, pk_un e, pk_un (show 80 + c ≠ 80 + b by omega), pk_un (show 80 + c ≠ 80 + b by omega), pk_un (show 80 + c ≠ b by omega), pk_un (show 80 + c ≠ b by omega)]
    exact hR c hc (by omega)
theorem cj_write {g : Nat → Nat} {v p : Nat} {x : Int32} (hv : v < 6) (ht : ¬ th v = 0) (hw : fr v = 0) (hp : p < 64) (hB : cw_BK g bk) (hH : cw_HC g hc) (hA : cw_HA th g ha) (hR : cw_RG g go ba) (hL : ∀ d, d < 2 → lo d = 0 ∨ lo d = 1) :
    ∃ (r : Int32) (g' : Nat → Nat) (bk' hc' va' go' ha' ba' he' : Nat → Int32), cw_BK g' bk' ∧ cw_HC g' hc' ∧ cw_HA th g' ha' ∧ cw_RG g' go' ba' ∧
      (∀ P : Int32 → SX → Prop, P r (fs, fh, fl, th, wr, bk', hc', va', go', lo, sp, sv, sh, sd) → wpX_writeValue P (fs, fh, fl, th, wr, bk, hc, va, go, lo, sp, sv, sh, sd) (nI v) (nI p) x) ∧
      (∀ P : Int32 → SY → Prop, P r (fs, fh, fl, th, fr, ha', be, va', ba', lo, sV, he', sp, sh) → wpY_write P (fs, fh, fl, th, fr, ha, be, va, ba, lo, sV, he, sp, sh) (nI v) (nI p) x) := by
  have hx : 64 * v + p < 384 := by omega
  obtain ⟨he', hE, hT⟩ := cy_tally (fs := fs) (fh := fh) (fl := fl) (fr := fr) (be := be) (va := va) (ba := ba) (lo := lo) (sV := sV) (he := he) (sp := sp) (sh := sh) hA (cw_g80 hB)
  rcases cj_free2 (fs := fs) (fh := fh) (fl := fl) (th := th) (wr := wr) (bk := bk) (va := va) (go := go) (lo := lo) (sp := sp) (sv := sv) (sh := sh) (sd := sd) (fr := fr) (ha := ha) (be := be) (ba := ba) (sV := sV) hH hE 80 0 rfl with ⟨b, hb, hc0, hX, hY⟩ | ⟨hX, hY⟩
  · obtain ⟨bk', hc', hB', hH', hput⟩ := cx_put (fs := fs) (fh := fh) (fl := fl) (th := th) (wr := wr) (va := upd va b x) (go := upd (upd go b (if lo 0 = 0 then 1 else 0)) (80 + b) (if lo 1 = 0 then 1 else 0)) (lo := lo) (sp := sp) (sv := sv) (sh := sh) (sd := sd) (e := b + 1) hv hp (by omega) hB hH
    rw [cw_p1] at hput
    refine ⟨nI b, cw_up g (64 * v + p) (b + 1), bk', hc', upd va b x, _, upd ha (64 * v + p) (nI (b + 1)), _, he', hB', hH', cw_HA_up ht hp hA, cw_RG_wr hx hb hL hR, fun P hP => ?_, fun P hP => ?_⟩
    · unfold wpX_writeValue wpX_leastFreeBlock
      dsimp only
      refine ⟨81, hX _ (br_f (cw_en2 _ (by omega)) ⟨cw_in hb (by decide), ?_⟩)⟩
      rw [cw_cl (n := b) (by omega)]
      refine nm_e ⟨3, cx_w27s (d := 0) hb (by decide) (show 80 * 0 + b = b by omega) (cx_w27s (d := 1) hb (by decide) (show 80 * 1 + b = 80 + b by omega) (br_t (show (2 : Int32) ≤ nI 2 by decide) (hput _ hP)))⟩
    · unfold wpY_write wpY_free
      dsimp only
      refine cy_wr_t hv ht hw (br_f (by decide) (cy_out_t (n := 64) hp (by decide) (br_t rfl (hT _ ⟨81, hY _ (br_t (nI_pos' (by omega)) ?_)⟩))))
      dsimp only
      rw [cw_ix2, cw_ix5, cw_cl (n := b) (by omega), cw_cl (n := 80 + b) (by omega), cw_cl (n := 64 * v + p) (by omega), nI_1, cw_by2 (by omega), cw_b01 (hL 0 (by decide)), cw_b01 (hL 1 (by decide))]
      exact ⟨cw_in hb (by decide), nm_e ⟨cw_in (by omega) (by decide), nm_e ⟨cw_in (by omega) (by decide), nm_e ⟨cw_in hx (by decide), nm_e hP⟩⟩⟩⟩
  · refine ⟨-2, g, bk, hc, va, go, ha, ba, he', hB, hH, hA, hR, fun P hP => ?_, fun P hP => ?_⟩
    · unfold wpX_writeValue wpX_leastFreeBlock
      dsimp only
      exact ⟨81, hX _ (br_t rfl hP)⟩
    · unfold wpY_write wpY_free
      dsimp only
      exact cy_wr_t hv ht hw (br_f (by decide) (cy_out_t (n := 64) hp (by decide) (br_t rfl (hT _ ⟨81, hY _ (br_f (by decide) hP)⟩))))
theorem cw_RG_pu {g : Nat → Nat} {x : Nat} (hx : x < 384) (hR : cw_RG g go ba) : cw_RG (cw_up g x 0) go ba := cw_RG_sub hR (fun b hb hu => by
  have key := cw_C_up (g := g) (e := 0) hx (b + 1)
  rw [if_neg (show ¬ 0 = b + 1 by omega)] at key
  omega)
theorem cj_punch {g : Nat → Nat} {v p : Nat} (hv : v < 6) (ht : ¬ th v = 0) (hw : fr v = 0) (hp : p < 64) (hB : cw_BK g bk) (hH : cw_HC g hc) (hA : cw_HA th g ha) (hR : cw_RG g go ba) :
    ∃ (r : Nat) (g' : Nat → Nat) (bk' hc' ha' he' : Nat → Int32), r < 2 ∧ cw_BK g' bk' ∧ cw_HC g' hc' ∧ cw_HA th g' ha' ∧ cw_RG g' go ba ∧
      (∀ P : Int32 → SX → Prop, P (nI r) (fs, fh, fl, th, wr, bk', hc', va, go, lo, sp, sv, sh, sd) → wpX_putBlock P (fs, fh, fl, th, wr, bk, hc, va, go, lo, sp, sv, sh, sd) (nI v) (nI p) (-1)) ∧
      (∀ P : Int32 → SY → Prop, P (nI r) (fs, fh, fl, th, fr, ha', be, va, ba, lo, sV, he', sp, sh) → wpY_punch P (fs, fh, fl, th, fr, ha, be, va, ba, lo, sV, he, sp, sh) (nI v) (nI p)) := by
  have hx : 64 * v + p < 384 := by omega
  obtain ⟨bk', hc', hB', hH', hX⟩ := cx_punch (fs := fs) (fh := fh) (fl := fl) (th := th) (wr := wr) (va := va) (go := go) (lo := lo) (sp := sp) (sv := sv) (sh := sh) (sd := sd) hv hp hB hH
  have hA' := cw_HA_up (e := 0) ht hp hA
  obtain ⟨he', hE, hT⟩ := cy_tally (fs := fs) (fh := fh) (fl := fl) (fr := fr) (be := be) (va := va) (ba := ba) (lo := lo) (sV := sV) (he := he) (sp := sp) (sh := sh) hA' (cw_g80 hB')
  have hr2 : cw_pr g (64 * v + p) 0 < 2 := by unfold cw_pr; split <;> omega
  refine ⟨cw_pr g (64 * v + p) 0, cw_up g (64 * v + p) 0, bk', hc', _, he', hr2, hB', hH', hA', cw_RG_pu hx hR, hX, fun P hP => ?_⟩
  have eA := cw_ha_at hA hv ht hp
  have g80 := (hB _ hx).1
  have hl := cw_C_le (cw_up g (64 * v + p) 0) (g (64 * v + p))
  unfold wpY_punch
  dsimp only
  rw [cw_ix2, cw_cl (n := 64 * v + p) (by omega), eA, cw_by0]
  refine cy_wr_t hv ht hw (br_f (by decide) (cy_out_t (n := 64) hp (by decide) (br_t rfl ⟨cw_in hx (by decide), nm_e ⟨cw_in hx (by decide), nm_e (hT _ ?_)⟩⟩)))
  dsimp only
  rw [cw_e1 _ (by omega), cw_q1, cw_cl (n := g (64 * v + p)) (by omega)]
  unfold cw_pr at hP
  by_cases h0 : g (64 * v + p) = 0
  · rw [if_neg (fun z => z.1 h0)] at hP
    exact br_t h0 hP
  · have hE' := hE (g (64 * v + p) - 1) (by omega)
    rw [show g (64 * v + p) - 1 + 1 = g (64 * v + p) by omega] at hE'
    rw [hE', cw_z0 (by omega)]
    refine br_f h0 ⟨cw_in (by omega) (by decide), ?_⟩
    by_cases hz : cw_C (cw_up g (64 * v + p) 0) (g (64 * v + p)) = 0
    · rw [if_pos ⟨h0, hz⟩] at hP
      exact br_t hz hP
    · rw [if_neg (fun z => hz z.2)] at hP
      exact br_f hz hP
theorem i_vc_write {k : Nat} {u : SX} {v : SY} (I : i_Rel k u v) (hk : k + 6 ≤ 3072) (v1 : Int32) (v2 : Int32) (v3 : Int32) : wpX_write (fun r u' => wpY_write (fun r' v' => r' = r ∧ i_Rel (k + 6) u' v') v v1 v2 v3) u v1 v2 v3 := by
  obtain ⟨g, s, h, l, th, wr, bk, hc, va, go, lo, sp, sv, sh, sd, fr, ha, be, ba, sV, he, rfl, rfl, hs, hh, hl, hW, hB, hH, hA, hG, hL, hS, hV⟩ := I
  unfold wpX_write
  dsimp only
  by_cases h1 : cw_wr th wr v1
  · obtain ⟨a, ha6, rfl, hta, hwa⟩ := h1
    have hfa : fr a = 0 := Classical.byContradiction fun z => hwa ((hW a ha6 hta).mpr z)
    by_cases h2 : cw_lt 64 v2
    · obtain ⟨p, hp, rfl⟩ := h2
      obtain ⟨r, g', bk', hc', va', go', ha', ba', he', hB', hH', hA', hR', hX, hY⟩ := cj_write (fs := nI s) (fh := nI h) (fl := nI l) (wr := wr) (va := va) (sp := sp) (sv := sv) (sh := sh) (sd := sd) (be := be) (sV := sV) (he := he) (x := v3) ha6 hta hfa hp hB hH hA hG hL
      exact cx_wr_t ha6 hta hwa (br_f (by decide) (cx_place_t hp (br_f (by decide) (hX _ (hY _ ⟨rfl, cw_mk ⟨hs, hh, hl, hW, hB', hH', hA', hR', hL, hS, hV⟩⟩)))))
    · refine cx_wr_t ha6 hta hwa (br_f (by decide) (cx_place_f h2 (br_t rfl ?_)))
      unfold wpY_write
      dsimp only
      exact cy_wr_t ha6 hta hfa (br_f (by decide) (cy_out_f (n := 64) h2 (by decide) (br_f (by decide) ⟨rfl, cw_mk ⟨hs, hh, hl, hW, hB, hH, hA, hG, hL, hS, hV⟩⟩)))
  · refine cx_wr_f h1 (br_t rfl ?_)
    unfold wpY_write
    dsimp only
    exact cy_wr_f (fun z => h1 ((cw_wrf hW v1).mpr z)) (br_t rfl ⟨rfl, cw_mk ⟨hs, hh, hl, hW, hB, hH, hA, hG, hL, hS, hV⟩⟩)
theorem i_vc_punch {k : Nat} {u : SX} {v : SY} (I : i_Rel k u v) (hk : k + 6 ≤ 3072) (v1 : Int32) (v2 : Int32) : wpX_punch (fun r u' => wpY_punch (fun r' v' => r' = r ∧ i_Rel (k + 6) u' v') v v1 v2) u v1 v2 := by
  obtain ⟨g, s, h, l, th, wr, bk, hc, va, go, lo, sp, sv, sh, sd, fr, ha, be, ba, sV, he, rfl, rfl, hs, hh, hl, hW, hB, hH, hA, hG, hL, hS, hV⟩ := I
  unfold wpX_punch
  dsimp only
  by_cases h1 : cw_wr th wr v1
  · obtain ⟨a, ha6, rfl, hta, hwa⟩ := h1
    have hfa : fr a = 0 := Classical.byContradiction fun z => hwa ((hW a ha6 hta).mpr z)
    by_cases h2 : cw_lt 64 v2
    · obtain ⟨p, hp, rfl⟩ := h2
      obtain ⟨r, g', bk', hc', ha', he', _, hB', hH', hA', hR', hX, hY⟩ := cj_punch (fs := nI s) (fh := nI h) (fl := nI l) (wr := wr) (va := va) (lo := lo) (sp := sp) (sv := sv) (sh := sh) (sd := sd) (be := be) (sV := sV) (he := he) ha6 hta hfa hp hB hH hA hG
      exact cx_wr_t ha6 hta hwa (br_f (by decide) (cx_place_t hp (br_f (by decide) (hX _ (hY _ ⟨rfl, cw_mk ⟨hs, hh, hl, hW, hB', hH', hA', hR', hL, hS, hV⟩⟩)))))
    · refine cx_wr_t ha6 hta hwa (br_f (by decide) (cx_place_f h2 (br_t rfl ?_)))
      unfold wpY_punch
      dsimp only
      exact cy_wr_t ha6 hta hfa (br_f (by decide) (cy_out_f (n := 64) h2 (by decide) (br_f (by decide) ⟨rfl, cw_mk ⟨hs, hh, hl, hW, hB, hH, hA, hG, hL, hS, hV⟩⟩)))
  · refine cx_wr_f h1 (br_t rfl ?_)
    unfold wpY_punch
    dsimp only
    exact cy_wr_f (fun z => h1 ((cw_wrf hW v1).mpr z)) (br_t rfl ⟨rfl, cw_mk ⟨hs, hh, hl, hW, hB, hH, hA, hG, hL, hS, hV⟩⟩)
theorem cj_rec12 {v l : Nat} (hv : v < 6) (ht : ¬ th v = 0) (hw : fr v = 0) (hl : l ≤ 64) (hL : ∀ d, d < 2 → lo d = 0 ∨ lo d = 1) (hS : ∀ k, ∃ p, p < 64 ∧ sp k = nI p) (hV : ∀ k, ¬ sh k = 0 → sv k = sV k) : ∀ (d j : Nat) (g : Nat → Nat) (bk hc va go ha ba he : Nat → Int32), j + d = l → cw_BK g bk → cw_HC g hc → cw_HA th g ha → cw_RG g go ba →
    ∃ (r : Int32) (g' : Nat → Nat) (bk' hc' va' go' ha' ba' he' : Nat → Int32), cw_BK g' bk' ∧ cw_HC g' hc' ∧ cw_HA th g' ha' ∧ cw_RG g' go' ba' ∧
      (∀ P : Int32 → SX → Prop, P r (fs, fh, nI l, th, wr, bk', hc', va', go', lo, sp, sv, sh, sd) → wX_receive_12 P (nI v) (d + 1) (nI j) fs fh (nI l) th wr bk hc va go lo sp sv sh sd) ∧
      (∀ P : Int32 → SY → Prop, P r (fs, fh, nI l, th, fr, ha', be, va', ba', lo, sV, he', sp, sh) → wY_receive_12 P (nI v) (d + 1) (nI j) fs fh (nI l) th fr ha be va ba lo sV he sp sh) := by
  intro d
  induction d with
  | zero =>
    intro j g bk hc va go ha ba he hj hB hH hA hR
    obtain rfl : j = l := by omega
    have hle : nI j ≤ nI j := nI_le (by omega) (by omega)
    exact ⟨nI j, g, bk, hc, va, go, ha, ba, he, hB, hH, hA, hR, fun P hP => br_t hle hP, fun P hP => br_t hle hP⟩
  | succ d ih =>
    intro j g bk hc va go ha ba he hj hB hH hA hR
    have hlt : ¬ nI l ≤ nI j := nI_ge (by omega) (by omega)
    have hi : vp_in (nI j) 64 := cw_in (by omega) (by decide)
    obtain ⟨p, hp, ep⟩ := hS j
    unfold wX_receive_12 wY_receive_12 wY_receive_60
    rw [cw_cl (n := j) (by omega), ep]
    by_cases h0 : sh j = 0
    · obtain ⟨r, g1, bk1, hc1, ha1, he1, hr2, hB1, hH1, hA1, hR1, hX1, hY1⟩ := cj_punch (fs := fs) (fh := fh) (fl := nI l) (wr := wr) (va := va) (lo := lo) (sp := sp) (sv := sv) (sh := sh) (sd := sd) (be := be) (sV := sV) (he := he) hv ht hw hp hB hH hA hR
      obtain ⟨r', g', bk', hc', va', go', ha', ba', he', hB', hH', hA', hR', hX, hY⟩ := ih (j + 1) g1 bk1 hc1 va go ha1 ba he1 (by omega) hB1 hH1 hA1 hR1
      exact ⟨r', g', bk', hc', va', go', ha', ba', he', hB', hH', hA', hR', fun P hP => br_f hlt ⟨hi, br_t h0 ⟨hi, hX1 _ (nm_r (nI_1 j) (hX P hP))⟩⟩, fun P hP => br_f hlt ⟨hi, br_t h0 ⟨hi, hY1 _ (br_f (cw_en2 _ (by omega)) (nm_r (nI_1 j) (hY P hP)))⟩⟩⟩
    · obtain ⟨r, g1, bk1, hc1, va1, go1, ha1, ba1, he1, hB1, hH1, hA1, hR1, hX1, hY1⟩ := cj_write (fs := fs) (fh := fh) (fl := nI l) (wr := wr) (va := va) (sp := sp) (sv := sv) (sh := sh) (sd := sd) (be := be) (sV := sV) (he := he) (x := sv j) hv ht hw hp hB hH hA hR hL
      rw [← hV j h0]
      by_cases hr : r = -2
      · exact ⟨nI j, g1, bk1, hc1, va1, go1, ha1, ba1, he1, hB1, hH1, hA1, hR1, fun P hP => br_f hlt ⟨hi, br_f h0 ⟨hi, hi, hX1 _ (br_t hr hP)⟩⟩, fun P hP => br_f hlt ⟨hi, br_f h0 ⟨hi, hi, hY1 _ (br_t hr hP)⟩⟩⟩
      · obtain ⟨r', g', bk', hc', va', go', ha', ba', he', hB', hH', hA', hR', hX, hY⟩ := ih (j + 1) g1 bk1 hc1 va1 go1 ha1 ba1 he1 (by omega) hB1 hH1 hA1 hR1
        exact ⟨r', g', bk', hc', va', go', ha', ba', he', hB', hH', hA', hR', fun P hP => br_f hlt ⟨hi, br_f h0 ⟨hi, hi, hX1 _ (br_f hr (nm_r (nI_1 j) (hX P hP)))⟩⟩, fun P hP => br_f hlt ⟨hi, br_f h0 ⟨hi, hi, hY1 _ (br_f hr (nm_r (nI_1 j) (hY P hP)))⟩⟩⟩
theorem i_vc_receive {k : Nat} {u : SX} {v : SY} (I : i_Rel k u v) (hk : k + 6 ≤ 3072) (v1 : Int32) : wpX_receive (fun r u' => wpY_receive (fun r' v' => r' = r ∧ i_Rel (k + 6) u' v') v v1) u v1 := by
  obtain ⟨g, s, h, l, th, wr, bk, hc, va, go, lo, sp, sv, sh, sd, fr, ha, be, ba, sV, he, rfl, rfl, hs, hh, hl, hW, hB, hH, hA, hG, hL, hS, hV⟩ := I
  unfold wpX_receive wpY_receive
  dsimp only
  by_cases h1 : cw_wr th wr v1
  · obtain ⟨a, ha6, rfl, hta, hwa⟩ := h1
    have hfa : fr a = 0 := Classical.byContradiction fun z => hwa ((hW a ha6 hta).mpr z)
    obtain ⟨r', g', bk', hc', va', go', ha', ba', he', hB', hH', hA', hR', hX, hY⟩ := cj_rec12 (fs := nI s) (fh := nI h) (wr := wr) (sd := sd) (be := be) ha6 hta hfa hl hL hS hV l 0 g bk hc va go ha ba he (by omega) hB hH hA hG
    exact cx_wr_t ha6 hta hwa (br_f (by decide) ⟨l + 1, hX _ (cy_wr_t ha6 hta hfa (br_f (by decide) ⟨l + 1, hY _ ⟨rfl, cw_mk ⟨hs, hh, hl, hW, hB', hH', hA', hR', hL, hS, hV⟩⟩⟩))⟩)
  · exact cx_wr_f h1 (br_t rfl (cy_wr_f (fun z => h1 ((cw_wrf hW v1).mpr z)) (br_t rfl ⟨rfl, cw_mk ⟨hs, hh, hl, hW, hB, hH, hA, hG, hL, hS, hV⟩⟩)))
end
end
section
section
variable {fs fh fl : Int32} {th wr bk hc va go lo sp sv sh sd fr ha be ba sV he : Nat → Int32}
theorem cw_RG_cp {g : Nat → Nat} {D S n : Nat} (hS : S + n ≤ 384) (hR : cw_RG g go ba) : cw_RG (cw_cp g D S n) go ba := cw_RG_sub hR (fun b _ hu => by
  obtain ⟨x, hx, e⟩ := cw_C_pos.mp hu
  obtain ⟨y, hy, e2⟩ := cw_cp_of (g := g) (d := D) (s := S) (i := n) hS hx
  exact cw_C_pos.mpr ⟨y, hy, e2.symm.trans e⟩)
theorem cx_sn48 {g : Nat → Nat} {v m : Nat} (hv : v < 6) (hm : m < 6) (hne : v ≠ m) (hg : ∀ x, x < 384 → g x ≤ 80) : ∀ (d j : Nat) (bk hc : Nat → Int32), j + d = 64 → cw_BK (cw_cp g (64 * m) (64 * v) j) bk → cw_HC (cw_cp g (64 * m) (64 * v) j) hc →
    ∃ bk' hc', cw_BK (cw_cp g (64 * m) (64 * v) 64) bk' ∧ cw_HC (cw_cp g (64 * m) (64 * v) 64) hc' ∧ ∀ P : Int32 → SX → Prop, P (nI m) (fs, fh, fl, th, wr, bk', hc', va, go, lo, sp, sv, sh, sd) → wX_snapshot_48 P (nI v) (nI m) (d + 1) (nI j) fs fh fl th wr bk hc va go lo sp sv sh sd := by
  intro d
  induction d with
  | zero =>
    intro j bk hc hj hB hH
    obtain rfl : j = 64 := by omega
    exact ⟨bk, hc, hB, hH, fun P hP => br_t (show (64 : Int32) ≤ nI 64 by decide) hP⟩
  | succ d ih =>
    intro j bk hc hj hB hH
    have hx : 64 * v + j < 384 := by omega
    have eB := (hB (64 * v + j) hx).2
    rw [cw_cp_out (by omega)] at eB
    obtain ⟨bk1, hc1, hB1, hH1, hT1⟩ := cx_put (fs := fs) (fh := fh) (fl := fl) (th := th) (wr := wr) (va := va) (go := go) (lo := lo) (sp := sp) (sv := sv) (sh := sh) (sd := sd) (p := j) (e := g (64 * v + j)) hm (by omega) (hg _ hx) hB hH
    rw [← cw_cp_s] at hB1 hH1
    obtain ⟨bk2, hc2, hB2, hH2, hT2⟩ := ih (j + 1) bk1 hc1 (by omega) hB1 hH1
    refine ⟨bk2, hc2, hB2, hH2, fun P hP => ?_⟩
    unfold wX_snapshot_48
    rw [cw_ix1, cw_cl (n := 64 * v + j) (by omega), eB]
    exact br_f (nI_ge (b := 64) (by omega) (by decide)) ⟨cw_in hx (by decide), hT1 _ (nm_r (nI_1 j) (hT2 P hP))⟩
theorem cy_sn32 {g : Nat → Nat} {v m : Nat} (hv : v < 6) (hm : m < 6) (hne : v ≠ m) (hg : ∀ x, x < 384 → g x ≤ 80) : ∀ (d j : Nat) (ha : Nat → Int32), j + d = 64 → (∀ p, p < 64 → ha (64 * v + p) = nI (g (64 * v + p))) →
    ∃ ha' : Nat → Int32, (∀ x, x < 64 * m + j ∨ 64 * m + 64 ≤ x → ha' x = ha x) ∧ (∀ p, j ≤ p → p < 64 → ha' (64 * m + p) = nI (g (64 * v + p))) ∧ ∀ P : Int32 → SY → Prop, P (nI m) (fs, fh, fl, th, fr, ha', be, va, ba, lo, sV, he, sp, sh) → wY_snapshot_32 P (nI v) (nI m) fs fh fl (d + 1) (nI j) th fr ha be va ba lo sV he sp sh := by
  intro d
  induction d with
  | zero =>
    intro j ha hj hv
    obtain rfl : j = 64 := by omega
    exact ⟨ha, fun x _ => rfl, fun p h1 h2 => by omega, fun P hP => br_t (show (64 : Int32) ≤ nI 64 by decide) hP⟩
  | succ d ih =>
    intro j ha hj hA
    have g80 := hg (64 * v + j) (by omega)
    obtain ⟨ha', h1, h2, hT⟩ := ih (j + 1) (upd ha (64 * m + j) (nI (g (64 * v + j)))) (by omega) (fun p hp => by rw [pk_un (by omega)]; exact hA p hp)
    refine ⟨ha', fun x hx => ?_, fun p hp hp2 => ?_, fun P hP => ?_⟩
    · rw [h1 x (by omega), pk_un (by omega)]
    · by_cases e : p = j
      · rw [h1 _ (by omega), e, pk_us]
      · exact h2 p (by omega) hp2
    · unfold wY_snapshot_32
      rw [cw_ix2, cw_ix2, cw_cl (n := 64 * v + j) (by omega), cw_cl (n := 64 * m + j) (by omega), hA j (by omega), cw_by (by omega)]
      exact br_f (nI_ge (b := 64) (by omega) (by decide)) ⟨cw_in (by omega) (by decide), cw_in (by omega) (by decide), nm_e (nm_r (nI_1 j) (hT P hP))⟩
theorem i_vc_snapshot {k : Nat} {u : SX} {v : SY} (I : i_Rel k u v) (hk : k + 6 ≤ 3072) (v1 : Int32) (v2 : Int32) : wpX_snapshot (fun r u' => wpY_snapshot (fun r' v' => r' = r ∧ i_Rel (k + 6) u' v') v v1 (lw_bz v2)) u v1 (lw_bz v2) := by
  obtain ⟨g, s, h, l, th, wr, bk, hc, va, go, lo, sp, sv, sh, sd, fr, ha, be, ba, sV, he, rfl, rfl, hs, hh, hl, hW, hB, hH, hA, hG, hL, hS, hV⟩ := I
  unfold wpX_snapshot
  dsimp only
  have hz := lw_bz_01 v2
  generalize lw_bz v2 = z at hz
  by_cases h1 : cw_is th v1
  · obtain ⟨a, ha6, rfl, hta⟩ := h1
    refine cx_is_t ha6 hta (br_f (by decide) ?_)
    rcases cj_least (fs := nI s) (fh := nI h) (fl := nI l) (th := th) (wr := wr) (bk := bk) (hc := hc) (va := va) (go := go) (lo := lo) (sp := sp) (sv := sv) (sh := sh) (sd := sd) (fr := fr) (ha := ha) (be := be) (ba := ba) (sV := sV) (he := he) with ⟨m, hm, ht, hX, hY⟩ | ⟨hX, hY⟩
    · have hne : a ≠ m := fun e => hta (e ▸ ht)
      obtain ⟨ha1, q1, q2, hT⟩ := cy_create_t hm hY
      have eA1 : ∀ p, p < 64 → ha1 (64 * a + p) = nI (g (64 * a + p)) := fun p hp => by
        rw [q1 _ (by omega)]
        exact cw_ha_at hA ha6 hta hp
      obtain ⟨ha2, w1, w2, hT2⟩ := cy_sn32 (fs := nI s) (fh := nI h) (fl := nI l) (th := upd th m 1) (fr := upd fr m z) (be := be) (va := va) (ba := ba) (lo := lo) (sV := sV) (he := he) (sp := sp) (sh := sh) ha6 hm hne (cw_g80 hB) 64 0 ha1 rfl eA1
      obtain ⟨bk', hc', hB', hH', hTX⟩ := cx_sn48 (fs := nI s) (fh := nI h) (fl := nI l) (th := upd th m 1) (wr := upd wr m (if z = 0 then 1 else 0)) (va := va) (go := go) (lo := lo) (sp := sp) (sv := sv) (sh := sh) (sd := sd) (g := g) ha6 hm hne (cw_g80 hB) 64 0 bk hc rfl (by rw [cw_cp_0]; exact hB) (by rw [cw_cp_0]; exact hH)
      have hWz : cw_WF (upd th m 1) (upd wr m (if z = 0 then 1 else 0)) (upd fr m z) := cw_WF_up hW (by rcases hz with e | e <;> subst e <;> decide)
      have hA2 : cw_HA (upd th m 1) (cw_cp g (64 * m) (64 * a) 64) ha2 := by
        intro x hx
        by_cases e : x / 64 = m
        · rw [e, pk_us]
          refine ⟨fun q => absurd q (by decide), fun _ => ?_⟩
          have hx2 : x = 64 * m + x % 64 := by omega
          rw [hx2, w2 _ (by omega) (by omega), cw_cp_in (by omega)]
        · rw [pk_un e, w1 x (by omega), q1 x (by omega), cw_cp_out (by omega)]
          exact hA x hx
      have hYY : wpY_snapshot (fun r' v' => r' = nI m ∧ i_Rel (k + 6) (nI s, nI h, nI l, upd th m 1, upd wr m (if z = 0 then 1 else 0), bk', hc', va, go, lo, sp, sv, sh, sd) v') (nI s, nI h, nI l, th, fr, ha, be, va, ba, lo, sV, he, sp, sh) (nI a) z := by
        unfold wpY_snapshot
        dsimp only
        refine cy_is_t ha6 hta (br_f (by decide) (hT _ (br_t (nI_pos' (by omega)) ?_)))
        dsimp only
        rw [cw_cl (n := m) (by omega), cw_b01 hz, cw_upup]
        exact ⟨cw_in hm (by decide), nm_e ⟨65, hT2 _ ⟨rfl, cw_mk ⟨hs, hh, hl, hWz, hB', hH', hA2, cw_RG_cp (by omega) hG, hL, hS, hV⟩⟩⟩⟩
      refine hX _ (br_f (cw_en1 _ (by omega)) ?_)
      rw [cw_cl (n := m) (by omega), cw_b0, cw_b1]
      refine ⟨cw_in hm (by decide), nm_e ?_⟩
      by_cases e : z = 0
      · rw [if_pos e] at hTX hYY
        exact br_t e ⟨cw_in hm (by decide), nm_e ⟨65, hTX _ hYY⟩⟩
      · rw [if_neg e] at hTX hYY
        exact br_f e ⟨cw_in hm (by decide), nm_e ⟨65, hTX _ hYY⟩⟩
    · refine hX _ (br_t rfl ?_)
      unfold wpY_snapshot
      dsimp only
      exact cy_is_t ha6 hta (br_f (by decide) (cy_create_f hY (br_f (by decide) ⟨rfl, cw_mk ⟨hs, hh, hl, hW, hB, hH, hA, hG, hL, hS, hV⟩⟩)))
  · refine cx_is_f h1 (br_t rfl ?_)
    unfold wpY_snapshot
    dsimp only
    exact cy_is_f h1 (br_t rfl ⟨rfl, cw_mk ⟨hs, hh, hl, hW, hB, hH, hA, hG, hL, hS, hV⟩⟩)
/-! share -/
theorem cx_sh40 {v p n : Nat} {x3 x4 : Int32} (hv : v < 6) (hpn : p + n ≤ 64) : ∀ (d j : Nat) (sd : Nat → Int32), j + d = n → (∀ i, i < j → sd i = bk (64 * v + p + i)) →
    ∃ sd' : Nat → Int32, (∀ i, i < n → sd' i = bk (64 * v + p + i)) ∧ ∀ P : Int32 → SX → Prop, (∃ n80, wX_share_80 P x3 x4 (nI n) n80 0 0 fs fh fl th wr bk hc va go lo sp sv sh sd') → wX_share_40 P (nI v) (nI p) x3 x4 (nI n) fs fh fl (d + 1) (nI j) th wr bk hc va go lo sp sv sh sd := by
  intro d
  induction d with
  | zero =>
    intro j sd hj hi
    obtain rfl : j = n := by omega
    exact ⟨sd, hi, fun P hP => br_t (nI_le (by omega) (by omega)) hP⟩
  | succ d ih =>
    intro j sd hj hi
    obtain ⟨sd', h1, hT⟩ := ih (j + 1) (upd sd j (bk (64 * v + p + j))) (by omega) (fun i hij => by
      by_cases e : i = j
      · rw [e, pk_us]
      · rw [pk_un e]
        exact hi i (by omega))
    refine ⟨sd', h1, fun P hP => ?_⟩
    unfold wX_share_40
    rw [cw_ix1, nI_add, cw_cl (n := 64 * v + p + j) (by omega), cw_cl (n := j) (by omega)]
    exact br_f (nI_ge (by omega) (by omega)) ⟨cw_in (by omega) (by decide), cw_in (by omega) (by decide), nm_e (nm_r (nI_1 j) (hT P hP))⟩
theorem cy_sh56 {g : Nat → Nat} {v p n : Nat} {x3 x4 : Int32} (hv : v < 6) (ht : ¬ th v = 0) (hpn : p + n ≤ 64) (hg : ∀ x, x < 384 → g x ≤ 80) (hA : cw_HA th g ha) : ∀ (d j : Nat) (be : Nat → Int32), j + d = n → (∀ i, i < j → be i = nI (g (64 * v + p + i))) →
    ∃ be' : Nat → Int32, (∀ i, i < n → be' i = nI (g (64 * v + p + i))) ∧ ∀ P : Int32 → SY → Prop, (∃ n96, wY_share_96 P x3 x4 (nI n) fs fh fl n96 0 0 th fr ha be' va ba lo sV he sp sh) → wY_share_56 P (nI v) (nI p) x3 x4 (nI n) fs fh fl (d + 1) (nI j) th fr ha be va ba lo sV he sp sh := by
  intro d
  induction d with
  | zero =>
    intro j be hj hi
    obtain rfl : j = n := by omega
    exact ⟨be, hi, fun P hP => br_t (nI_le (by omega) (by omega)) hP⟩
  | succ d ih =>
    intro j be hj hi
    have g80 := hg (64 * v + p + j) (by omega)
    have eA := cw_ha_at hA hv ht (p := p + j) (by omega)
    rw [← Nat.add_assoc] at eA
    obtain ⟨be', h1, hT⟩ := ih (j + 1) (upd be j (nI (g (64 * v + p + j)))) (by omega) (fun i hij => by
      by_cases e : i = j
      · rw [e, pk_us]
      · rw [pk_un e]
        exact hi i (by omega))
    refine ⟨be', h1, fun P hP => ?_⟩
    unfold wY_share_56
    rw [cw_ix2, nI_add, cw_cl (n := 64 * v + p + j) (by omega), cw_cl (n := j) (by omega), eA, cw_by (by omega)]
    exact br_f (nI_ge (by omega) (by omega)) ⟨cw_in (by omega) (by decide), cw_in (by omega) (by decide), nm_e (nm_r (nI_1 j) (hT P hP))⟩
theorem cj_sh80 {g : Nat → Nat} {S w q n : Nat} (hw : w < 6) (ht : ¬ th w = 0) (hqn : q + n ≤ 64) (hS : S + n ≤ 384) (hg : ∀ x, x < 384 → g x ≤ 80) (hsd : ∀ i, i < n → sd i = nI (g (S + i)) - 1) (hbe : ∀ i, i < n → be i = nI (g (S + i))) :
    ∀ (d j : Nat) (c : Int32) (bk hc ha : Nat → Int32), j + d = n → cw_BK (cw_cp g (64 * w + q) S j) bk → cw_HC (cw_cp g (64 * w + q) S j) hc → cw_HA th (cw_cp g (64 * w + q) S j) ha →
    ∃ (r : Int32) (bk' hc' ha' : Nat → Int32), cw_BK (cw_cp g (64 * w + q) S n) bk' ∧ cw_HC (cw_cp g (64 * w + q) S n) hc' ∧ cw_HA th (cw_cp g (64 * w + q) S n) ha' ∧
      (∀ P : Int32 → SX → Prop, P r (fs, fh, fl, th, wr, bk', hc', va, go, lo, sp, sv, sh, sd) → wX_share_80 P (nI w) (nI q) (nI n) (d + 1) c (nI j) fs fh fl th wr bk hc va go lo sp sv sh sd) ∧
      (∀ P : Int32 → SY → Prop, P r (fs, fh, fl, th, fr, ha', be, va, ba, lo, sV, he, sp, sh) → wY_share_96 P (nI w) (nI q) (nI n) fs fh fl (d + 1) c (nI j) th fr ha be va ba lo sV he sp sh) := by
  intro d
  induction d with
  | zero =>
    intro j c bk hc ha hj hB hH hA
    obtain rfl : j = n := by omega
    have hle : nI j ≤ nI j := nI_le (by omega) (by omega)
    exact ⟨c, bk, hc, ha, hB, hH, hA, fun P hP => br_t hle hP, fun P hP => br_t hle hP⟩
  | succ d ih =>
    intro j c bk hc ha hj hB hH hA
    have hx : 64 * w + q + j < 384 := by omega
    have hlt : ¬ nI n ≤ nI j := nI_ge (by omega) (by omega)
    have i1 : vp_in (nI (64 * w + q + j)) 384 := cw_in hx (by decide)
    have i2 : vp_in (nI j) 64 := cw_in (by omega) (by decide)
    have gD := hg (64 * w + q + j) hx
    have gS := hg (S + j) (by omega)
    have eB := (hB (64 * w + q + j) hx).2
    rw [cw_cp_at] at eB
    have eA := cw_ha_at hA hw ht (p := q + j) (by omega)
    rw [← Nat.add_assoc, cw_cp_at] at eA
    have hA1 := cw_HA_up (v := w) (p := q + j) (e := g (S + j)) ht (by omega) hA
    rw [← Nat.add_assoc, ← cw_cp_s] at hA1
    unfold wX_share_80 wY_share_96 wY_share_131
    rw [cw_ix1, cw_ix2, nI_add (64 * w + q) j, nI_add q j, cw_cl (n := 64 * w + q + j) (by omega), cw_cl (n := j) (by omega), eB, eA, hsd j (by omega), hbe j (by omega), cw_eq (by omega) (by omega), nI_eq (by omega) (by omega), cw_by (by omega)]
    by_cases e : g (64 * w + q + j) = g (S + j)
    · have ecp : cw_cp g (64 * w + q) S (j + 1) = cw_cp g (64 * w + q) S j := by
        rw [cw_cp_s, ← e, ← cw_cp_at g (64 * w + q) S j, cw_up_same]
      obtain ⟨r, bk', hc', ha', hB', hH', hA', hX, hY⟩ := ih (j + 1) c bk hc _ (by omega) (by rw [ecp]; exact hB) (by rw [ecp]; exact hH) hA1
      exact ⟨r, bk', hc', ha', hB', hH', hA', fun P hP => br_f hlt ⟨i1, i2, br_t e (nm_r (nI_1 j) (hX P hP))⟩, fun P hP => br_f hlt ⟨i1, i2, br_t e ⟨i2, i1, nm_e (nm_r (nI_1 j) (hY P hP))⟩⟩⟩
    · obtain ⟨bk1, hc1, hB1, hH1, hT1⟩ := cx_put (fs := fs) (fh := fh) (fl := fl) (th := th) (wr := wr) (va := va) (go := go) (lo := lo) (sp := sp) (sv := sv) (sh := sh) (sd := sd) (p := q + j) (e := g (S + j)) hw (by omega) gS hB hH
      rw [← Nat.add_assoc, ← cw_cp_s] at hB1 hH1
      obtain ⟨r, bk', hc', ha', hB', hH', hA', hX, hY⟩ := ih (j + 1) (c + 1) bk1 hc1 _ (by omega) hB1 hH1 hA1
      exact ⟨r, bk', hc', ha', hB', hH', hA', fun P hP => br_f hlt ⟨i1, i2, br_f e (nm_e ⟨i2, hT1 _ (nm_r (nI_1 j) (hX P hP))⟩)⟩, fun P hP => br_f hlt ⟨i1, i2, br_f e (nm_e ⟨i2, i1, nm_e (nm_r (nI_1 j) (hY P hP))⟩)⟩⟩
theorem i_vc_share {k : Nat} {u : SX} {v : SY} (I : i_Rel k u v) (hk : k + 6 ≤ 3072) (v1 : Int32) (v2 : Int32) (v3 : Int32) (v4 : Int32) (v5 : Int32) : wpX_share (fun r u' => wpY_share (fun r' v' => r' = r ∧ i_Rel (k + 6) u' v') v v1 v2 v3 v4 v5) u v1 v2 v3 v4 v5 := by
  obtain ⟨g, s, h, l, th, wr, bk, hc, va, go, lo, sp, sv, sh, sd, fr, ha, be, ba, sV, he, rfl, rfl, hs, hh, hl, hW, hB, hH, hA, hG, hL, hS, hV⟩ := I
  unfold wpX_share wpY_share
  dsimp only
  by_cases h1 : cw_is th v1
  · obtain ⟨a, ha6, rfl, hta⟩ := h1
    refine cx_is_t ha6 hta (br_f (by decide) ?_)
    by_cases h2 : cw_wr th wr v3
    · obtain ⟨w, hw6, rfl, htw, hww⟩ := h2
      have hfw : fr w = 0 := Classical.byContradiction fun z => hww ((hW w hw6 htw).mpr z)
      refine cx_wr_t hw6 htw hww (br_f (by decide) ?_)
      by_cases h3 : cw_lt 65 v5
      · obtain ⟨n, hn, rfl⟩ := h3
        have e65 : 65 - nI n = nI (65 - n) := pk_sub (a := 65) (by omega)
        rw [e65]
        by_cases h4 : cw_lt (65 - n) v2
        · obtain ⟨p, hp, rfl⟩ := h4
          refine cx_range_t (by omega) hp (br_f (by decide) ?_)
          by_cases h5 : cw_lt (65 - n) v4
          · obtain ⟨q, hq, rfl⟩ := h5
            refine cx_range_t (by omega) hq (br_f (by decide) ?_)
            obtain ⟨sd', hsd, hX1⟩ := cx_sh40 (fs := nI s) (fh := nI h) (fl := nI l) (th := th) (wr := wr) (bk := bk) (hc := hc) (va := va) (go := go) (lo := lo) (sp := sp) (sv := sv) (sh := sh) (v := a) (p := p) (n := n) (x3 := nI w) (x4 := nI q) ha6 (by omega) n 0 sd (by omega) (fun i hi => absurd hi (Nat.not_lt_zero i))
            obtain ⟨be', hbe, hY1⟩ := cy_sh56 (fs := nI s) (fh := nI h) (fl := nI l) (fr := fr) (va := va) (ba := ba) (lo := lo) (sV := sV) (he := he) (sp := sp) (sh := sh) (v := a) (p := p) (n := n) (x3 := nI w) (x4 := nI q) ha6 hta (by omega) (cw_g80 hB) hA n 0 be (by omega) (fun i hi => absurd hi (Nat.not_lt_zero i))
            obtain ⟨r, bk', hc', ha', hB', hH', hA', hX2, hY2⟩ := cj_sh80 (fs := nI s) (fh := nI h) (fl := nI l) (wr := wr) (va := va) (go := go) (lo := lo) (sp := sp) (sv := sv) (sh := sh) (fr := fr) (ba := ba) (sV := sV) (he := he) (g := g) (sd := sd') (be := be') (S := 64 * a + p) (w := w) (q := q) (n := n) hw6 htw (by omega) (by omega) (cw_g80 hB) (fun i hi => by rw [hsd i hi, (hB _ (by omega)).2]) hbe n 0 0 bk hc ha (by omega) (by rw [cw_cp_0]; exact hB) (by rw [cw_cp_0]; exact hH) (by rw [cw_cp_0]; exact hA)
            refine ⟨n + 1, hX1 _ ⟨n + 1, hX2 _ ?_⟩⟩
            exact cy_is_t ha6 hta (br_f (by decide) (cy_wr_t hw6 htw hfw (br_f (by decide) (cy_out_t (n := 65) hn (by decide) (br_t rfl (cy_out_t hp (by omega) (br_t rfl (cy_out_t hq (by omega) (br_t rfl ⟨n + 1, hY1 _ ⟨n + 1, hY2 _ ⟨rfl, cw_mk ⟨hs, hh, hl, hW, hB', hH', hA', cw_RG_cp (by omega) hG, hL, hS, hV⟩⟩⟩⟩)))))))))
          · exact cx_range_f2 (by omega) h5 (br_t rfl (cy_is_t ha6 hta (br_f (by decide) (cy_wr_t hw6 htw hfw (br_f (by decide) (cy_out_t (n := 65) hn (by decide) (br_t rfl (cy_out_t hp (by omega) (br_t rfl (cy_out_f h5 (by omega) (br_f (by decide) ⟨rfl, cw_mk ⟨hs, hh, hl, hW, hB, hH, hA, hG, hL, hS, hV⟩⟩)))))))))))
        · exact cx_range_f2 (by omega) h4 (br_t rfl (cy_is_t ha6 hta (br_f (by decide) (cy_wr_t hw6 htw hfw (br_f (by decide) (cy_out_t (n := 65) hn (by decide) (br_t rfl (cy_out_f h4 (by omega) (br_f (by decide) ⟨rfl, cw_mk ⟨hs, hh, hl, hW, hB, hH, hA, hG, hL, hS, hV⟩⟩)))))))))
      · exact cx_range_f1 h3 (br_t rfl (cy_is_t ha6 hta (br_f (by decide) (cy_wr_t hw6 htw hfw (br_f (by decide) (cy_out_f (n := 65) h3 (by decide) (br_f (by decide) ⟨rfl, cw_mk ⟨hs, hh, hl, hW, hB, hH, hA, hG, hL, hS, hV⟩⟩)))))))
    · exact cx_wr_f h2 (br_t rfl (cy_is_t ha6 hta (br_f (by decide) (cy_wr_f (fun z => h2 ((cw_wrf hW v3).mpr z)) (br_t rfl ⟨rfl, cw_mk ⟨hs, hh, hl, hW, hB, hH, hA, hG, hL, hS, hV⟩⟩)))))
  · exact cx_is_f h1 (br_t rfl (cy_is_f h1 (br_t rfl ⟨rfl, cw_mk ⟨hs, hh, hl, hW, hB, hH, hA, hG, hL, hS, hV⟩⟩)))
end
end
section
section
variable {fs fh fl : Int32} {th wr bk hc va go lo sp sv sh sd fr ha be ba sV he : Nat → Int32}
theorem cw_nbr (x : Int32) : ¬ x.toInt64 = 1000000000001 := by
  intro h
  have h1 := congrArg Int64.toInt h
  rw [Int32.toInt_toInt64] at h1
  have h2 := Int32.toInt_lt x
  have e : (1000000000001 : Int64).toInt = 1000000000001 := by decide
  omega
theorem cw_back (x : Int32) : x.toInt64.toInt32 = x := by simp
theorem cj_oth {g : Nat → Nat} {p : Nat} (x2 : Int32) (hp : p < 64) (hB : cw_BK g bk) (hA : cw_HA th g ha) : ∃ c : Nat, c ≤ 80 ∧
    (∀ (fs fh fl : Int32) (wr hc va go lo sp sv sh sd : Nat → Int32) (P : Int32 → Prop), P (nI c - 1) → wpX_blockOrEmpty P (fs, fh, fl, th, wr, bk, hc, va, go, lo, sp, sv, sh, sd) x2 (nI p)) ∧
    (∀ (fs fh fl : Int32) (fr be va ba lo sV he sp sh : Nat → Int32) (P : Int32 → Prop), P (nI c - 1) → wpY_blockAt P (fs, fh, fl, th, fr, ha, be, va, ba, lo, sV, he, sp, sh) x2 (nI p)) := by
  by_cases h : cw_is th x2
  · obtain ⟨w, hw, rfl, ht⟩ := h
    obtain ⟨g80, eB⟩ := hB (64 * w + p) (by omega)
    have eA := cw_ha_at hA hw ht hp
    exact ⟨g (64 * w + p), g80, fun _ _ _ _ _ _ _ _ _ _ _ _ P hP => cx_boe_t hw ht hp (by rw [eB]; exact hP), fun _ _ _ _ _ _ _ _ _ _ _ _ P hP => cy_bat_t hw ht hp (by rw [eA]; exact hP)⟩
  · refine ⟨0, by omega, fun _ _ _ _ _ _ _ _ _ _ _ _ P hP => cx_boe_f (fun z => h z.1) ?_, fun _ _ _ _ _ _ _ _ _ _ _ _ P hP => cy_bat_f (fun z => h z.1) ?_⟩
    · rw [cw_em1] at hP
      exact hP
    · rw [cw_em1] at hP
      exact hP
theorem cx_app46 {l : Nat} {x z : Int32} (hl : l < 64) (hz : z = 0 ∨ z = 1) {P : Int32 → SX → Prop} (hP : P 1 (fs, fh, nI (l + 1), th, wr, bk, hc, va, go, lo, upd sp l x, sv, upd sh l z, sd)) : wX_appendEntry_46 P x z fs fh (nI l) th wr bk hc va go lo sp sv sh sd := by
  unfold wX_appendEntry_46
  rw [cw_cl (n := l) (by omega), cw_b01 hz]
  exact ⟨cw_in hl (by decide), nm_e ⟨cw_in hl (by decide), nm_e (nm_r (nI_1 l) hP)⟩⟩
theorem cx_app_e {l : Nat} {x : Int32} (hl : l < 64) {P : Int32 → SX → Prop} (hP : P 1 (fs, fh, nI (l + 1), th, wr, bk, hc, va, go, lo, upd sp l x, sv, upd sh l 0, sd)) : wpX_appendEntry P (fs, fh, nI l, th, wr, bk, hc, va, go, lo, sp, sv, sh, sd) x (-1) := by
  unfold wpX_appendEntry wX_appendEntry_10
  dsimp only
  exact br_t rfl (br_t rfl (cx_app46 hl (Or.inl rfl) hP))
theorem cx_app_b {l b h' r : Nat} {x : Int32} {go' : Nat → Int32} (hb : b < 80) (hX : ∀ P : Int32 → SX → Prop, P (nI r) (fs, nI h', nI l, th, wr, bk, hc, va, go', lo, sp, sv, sh, sd) → wpX_lookAt P (fs, fh, nI l, th, wr, bk, hc, va, go, lo, sp, sv, sh, sd) (nI b)) (h0 : go' b = 0) (h1 : go' (80 + b) = 0) {P : Int32 → SX → Prop} (hP : P 0 (fs, nI h', nI l, th, wr, bk, hc, va, go', lo, sp, sv, sh, sd)) : wpX_appendEntry P (fs, fh, nI l, th, wr, bk, hc, va, go, lo, sp, sv, sh, sd) x (nI b) := by
  unfold wpX_appendEntry wX_appendEntry_10
  dsimp only
  exact br_f (cw_en1 _ (by omega)) (br_f (by decide) (hX _ (cx_broken_t hb h0 h1 (br_f (by decide) hP))))
theorem cx_app_v {l b h' r : Nat} {x : Int32} {go' : Nat → Int32} (hl : l < 64) (hb : b < 80) (hX : ∀ P : Int32 → SX → Prop, P (nI r) (fs, nI h', nI l, th, wr, bk, hc, va, go', lo, sp, sv, sh, sd) → wpX_lookAt P (fs, fh, nI l, th, wr, bk, hc, va, go, lo, sp, sv, sh, sd) (nI b)) (h01 : ¬ (go' b = 0 ∧ go' (80 + b) = 0)) {P : Int32 → SX → Prop} (hP : P 1 (fs, nI h', nI (l + 1), th, wr, bk, hc, va, go', lo, upd sp l x, upd sv l (va b), upd sh l 1, sd)) : wpX_appendEntry P (fs, fh, nI l, th, wr, bk, hc, va, go, lo, sp, sv, sh, sd) x (nI b) := by
  unfold wpX_appendEntry wX_appendEntry_10
  dsimp only
  refine br_f (cw_en1 _ (by omega)) (br_f (by decide) (hX _ (cx_broken_f hb h01 (br_t rfl ⟨cw_in hb (by decide), cw_in hl (by decide), ?_⟩))))
  dsimp only
  rw [cw_cl (n := l) (by omega), cw_cl (n := b) (by omega)]
  exact nm_e (cx_app46 hl (Or.inr rfl) hP)
theorem cy_s79_b {P : Int32 → SY → Prop} {J : Int32 → Int32 → Int32 → Int32 → (Nat → Int32) → (Nat → Int32) → (Nat → Int32) → (Nat → Int32) → (Nat → Int32) → (Nat → Int32) → (Nat → Int32) → (Nat → Int32) → (Nat → Int32) → (Nat → Int32) → (Nat → Int32) → Prop} {x1 x2 x3 x4 : Int32} (hP : P ((-3) - x3) (fs, fh, nI 0, th, fr, ha, be, va, ba, lo, sV, he, sp, sh)) : wY_send_79 P J x1 x2 x3 x4 1000000000001 fs fh fl th fr ha be va ba lo sV he sp sh := by
  unfold wY_send_79
  exact br_t rfl hP
theorem cy_s79_e {P : Int32 → SY → Prop} {J : Int32 → Int32 → Int32 → Int32 → (Nat → Int32) → (Nat → Int32) → (Nat → Int32) → (Nat → Int32) → (Nat → Int32) → (Nat → Int32) → (Nat → Int32) → (Nat → Int32) → (Nat → Int32) → (Nat → Int32) → (Nat → Int32) → Prop} {x1 x2 : Int32} {j l : Nat} (hj : j < 64) (hl : l < 64) (hJ : J (nI (j + 1)) fs fh (nI (l + 1)) th fr ha be va ba lo (upd sV l 0) he (upd sp l (nI j)) (upd sh l 0)) : wY_send_79 P J x1 x2 (nI j) (nI 0 - 1) 1000000000000 fs fh (nI l) th fr ha be va ba lo sV he sp sh := by
  unfold wY_send_79 wY_send_129
  rw [cw_cl (n := l) (by omega), cw_by2 (by omega), cw_b0]
  have hi : vp_in (nI l) 64 := cw_in hl (by decide)
  exact br_f (by decide) ⟨hi, nm_e (br_t (by decide) ⟨hi, nm_e (nm_r (nI_1 l) (br_f (by decide) ⟨hi, nm_e (nm_r (nI_1 j) hJ)⟩))⟩)⟩
theorem cy_s79_v {P : Int32 → SY → Prop} {J : Int32 → Int32 → Int32 → Int32 → (Nat → Int32) → (Nat → Int32) → (Nat → Int32) → (Nat → Int32) → (Nat → Int32) → (Nat → Int32) → (Nat → Int32) → (Nat → Int32) → (Nat → Int32) → (Nat → Int32) → (Nat → Int32) → Prop} {x1 x2 : Int32} {j l b : Nat} (hj : j < 64) (hl : l < 64) (hb : b < 80) (hJ : J (nI (j + 1)) fs fh (nI (l + 1)) th fr ha be va ba lo (upd sV l (va b)) he (upd sp l (nI j)) (upd sh l 1)) : wY_send_79 P J x1 x2 (nI j) (nI b) (va b).toInt64 fs fh (nI l) th fr ha be va ba lo sV he sp sh := by
  unfold wY_send_79 wY_send_129
  rw [cw_cl (n := l) (by omega), cw_by2 (by omega), cw_b1, cw_back]
  have hi : vp_in (nI l) 64 := cw_in hl (by decide)
  exact br_f (cw_nbr _) ⟨hi, nm_e (br_f (nI_pos (by omega)) ⟨hi, nm_e (nm_r (nI_1 l) (br_t (nI_pos' (by omega)) ⟨hi, nm_e (nm_r (nI_1 j) hJ)⟩))⟩)⟩
theorem cj_send30 {g : Nat → Nat} {v : Nat} {x2 : Int32} (hv : v < 6) (ht : ¬ th v = 0) (hB : cw_BK g bk) (hA : cw_HA th g ha) : ∀ (d j l h : Nat) (go ba sp sv sV sh : Nat → Int32), j + d = 64 → l ≤ j → h < 1000000 → cw_RG g go ba → (∀ k, ∃ p, p < 64 ∧ sp k = nI p) → (∀ k, ¬ sh k = 0 → sv k = sV k) →
    ∃ (r : Int32) (l' h' : Nat) (go' ba' sp' sv' sV' sh' : Nat → Int32), l' ≤ 64 ∧ h' < 1000000 ∧ cw_RG g go' ba' ∧ (∀ k, ∃ p, p < 64 ∧ sp' k = nI p) ∧ (∀ k, ¬ sh' k = 0 → sv' k = sV' k) ∧
      (∀ P : Int32 → SX → Prop, P r (fs, nI h', nI l', th, wr, bk, hc, va, go', lo, sp', sv', sh', sd) → wX_send_30 P (nI v) x2 (d + 1) (nI j) fs (nI h) (nI l) th wr bk hc va go lo sp sv sh sd) ∧
      (∀ P : Int32 → SY → Prop, P r (fs, nI h', nI l', th, fr, ha, be, va, ba', lo, sV', he, sp', sh') → wY_send_30 P (nI v) x2 (d + 1) (nI j) fs (nI h) (nI l) th fr ha be va ba lo sV he sp sh) := by
  intro d
  induction d with
  | zero =>
    intro j l h go ba sp sv sV sh hj hl hh hR hS hV
    obtain rfl : j = 64 := by omega
    have hle : (64 : Int32) ≤ nI 64 := by decide
    exact ⟨nI l, l, h, go, ba, sp, sv, sV, sh, hl, hh, hR, hS, hV, fun P hP => br_t hle hP, fun P hP => br_t hle hP⟩
  | succ d ih =>
    intro j l h go ba sp sv sV sh hj hl hh hR hS hV
    have hj64 : j < 64 := by omega
    have hl64 : l < 64 := by omega
    have hx : 64 * v + j < 384 := by omega
    have hlt : ¬ (64 : Int32) ≤ nI j := nI_ge (b := 64) (by omega) (by decide)
    have i1 : vp_in (nI (64 * v + j)) 384 := cw_in hx (by decide)
    obtain ⟨g80, eB⟩ := hB (64 * v + j) hx
    have eA := cw_ha_at hA hv ht hj64
    obtain ⟨c, hc80, hoX, hoY⟩ := cj_oth x2 hj64 hB hA
    have hS' : ∀ k, ∃ p, p < 64 ∧ upd sp l (nI j) k = nI p := fun k => by
      by_cases e : k = l
      · exact ⟨j, hj64, by rw [e, pk_us]⟩
      · rw [pk_un e]
        exact hS k
    have hcmp : nI (g (64 * v + j)) - 1 = nI c - 1 ↔ g (64 * v + j) = c := cw_eq (by omega) (by omega)
    unfold wX_send_30 wY_send_30
    rw [cw_ix1, cw_cl (n := 64 * v + j) (by omega), eB]
    by_cases e : g (64 * v + j) = c
    · obtain ⟨r, l', h', go', ba', sp', sv', sV', sh', q1, q2, q3, q4, q5, hX, hY⟩ := ih (j + 1) l h go ba sp sv sV sh (by omega) (by omega) hh hR hS hV
      refine ⟨r, l', h', go', ba', sp', sv', sV', sh', q1, q2, q3, q4, q5, fun P hP => br_f hlt ⟨i1, nm_e (hoX _ _ _ _ _ _ _ _ _ _ _ _ _ (br_t (hcmp.mpr e) (nm_r (nI_1 j) (hX P hP))))⟩, fun P hP => br_f hlt (cy_bat_t hv ht hj64 ?_)⟩
      rw [eA]
      exact hoY _ _ _ _ _ _ _ _ _ _ _ _ _ (br_t (hcmp.mpr e) (nm_r (nI_1 j) (hY P hP)))
    · have hne : ¬ nI (g (64 * v + j)) - 1 = nI c - 1 := fun z => e (hcmp.mp z)
      by_cases h0 : g (64 * v + j) = 0
      · obtain ⟨r, l', h', go', ba', sp', sv', sV', sh', q1, q2, q3, q4, q5, hX, hY⟩ := ih (j + 1) (l + 1) h go ba (upd sp l (nI j)) sv (upd sV l 0) (upd sh l 0) (by omega) (by omega) hh hR hS' (fun k hk => by
          by_cases q : k = l
          · rw [q, pk_us] at hk
            exact absurd rfl hk
          · rw [pk_un q] at hk ⊢
            exact hV k hk)
        refine ⟨r, l', h', go', ba', sp', sv', sV', sh', q1, q2, q3, q4, q5, fun P hP => br_f hlt ⟨i1, nm_e (hoX _ _ _ _ _ _ _ _ _ _ _ _ _ (br_f hne ?_))⟩, fun P hP => br_f hlt (cy_bat_t hv ht hj64 ?_)⟩
        · rw [h0, cw_em1]
          exact cx_app_e hl64 (br_f (by decide) (nm_r (nI_1 j) (hX P hP)))
        · rw [eA]
          refine hoY _ _ _ _ _ _ _ _ _ _ _ _ _ (br_f hne ?_)
          rw [h0]
          exact br_f (by decide) (cy_s79_e hj64 hl64 (hY P hP))
      · obtain ⟨b, eb⟩ : ∃ b, g (64 * v + j) = b + 1 := ⟨g (64 * v + j) - 1, by omega⟩
        have hb : b < 80 := by omega
        obtain ⟨G0, G1⟩ := hR b hb (cw_used hx eb)
        obtain ⟨rr, h1, go1, ba1, y, hh1, hn1, G0', G1', hy, _, hXl, hYl⟩ := cj_look (fs := fs) (fl := nI l) (th := th) (wr := wr) (bk := bk) (hc := hc) (va := va) (go := go) (lo := lo) (sp := sp) (sv := sv) (sh := sh) (sd := sd) (fr := fr) (ha := ha) (be := be) (ba := ba) (sV := sV) (he := he) hb hh G0 G1
        have hR1 := cw_RG_look hb hR hn1 G0' G1'
        rw [eb, cw_p1] at hne eB ⊢
        rcases hy with ⟨y0, y1, ey⟩ | ⟨y01, ey⟩
        · refine ⟨(-3) - nI j, 0, h1, go1, ba1, sp, sv, sV, sh, by omega, hh1, hR1, hS, hV, fun P hP => br_f hlt ⟨i1, nm_e (hoX _ _ _ _ _ _ _ _ _ _ _ _ _ (br_f hne (cx_app_b hb hXl y0 y1 (br_t rfl hP))))⟩, fun P hP => br_f hlt (cy_bat_t hv ht hj64 ?_)⟩
          rw [eA, eb, cw_p1]
          refine hoY _ _ _ _ _ _ _ _ _ _ _ _ _ (br_f hne (br_t (nI_pos' (by omega)) (hYl _ ?_)))
          rw [ey]
          exact cy_s79_b hP
        · obtain ⟨r, l', h', go', ba', sp', sv', sV', sh', q1, q2, q3, q4, q5, hX, hY⟩ := ih (j + 1) (l + 1) h1 go1 ba1 (upd sp l (nI j)) (upd sv l (va b)) (upd sV l (va b)) (upd sh l 1) (by omega) (by omega) hh1 hR1 hS' (fun k hk => by
            by_cases q : k = l
            · rw [q, pk_us, pk_us]
            · rw [pk_un q] at hk ⊢
              rw [pk_un q]
              exact hV k hk)
          refine ⟨r, l', h', go', ba', sp', sv', sV', sh', q1, q2, q3, q4, q5, fun P hP => br_f hlt ⟨i1, nm_e (hoX _ _ _ _ _ _ _ _ _ _ _ _ _ (br_f hne (cx_app_v hl64 hb hXl y01 (br_f (by decide) (nm_r (nI_1 j) (hX P hP))))))⟩, fun P hP => br_f hlt (cy_bat_t hv ht hj64 ?_)⟩
          rw [eA, eb, cw_p1]
          refine hoY _ _ _ _ _ _ _ _ _ _ _ _ _ (br_f hne (br_t (nI_pos' (by omega)) (hYl _ ?_)))
          rw [ey]
          exact cy_s79_v hj64 hl64 hb (hY P hP)
theorem i_vc_send {k : Nat} {u : SX} {v : SY} (I : i_Rel k u v) (hk : k + 6 ≤ 3072) (v1 : Int32) (v2 : Int32) : wpX_send (fun r u' => wpY_send (fun r' v' => r' = r ∧ i_Rel (k + 6) u' v') v v1 v2) u v1 v2 := by
  obtain ⟨g, s, h, l, th, wr, bk, hc, va, go, lo, sp, sv, sh, sd, fr, ha, be, ba, sV, he, rfl, rfl, hs, hh, hl, hW, hB, hH, hA, hG, hL, hS, hV⟩ := I
  unfold wpX_send wpY_send
  dsimp only
  by_cases h1 : cw_is th v1
  · obtain ⟨a, ha6, rfl, hta⟩ := h1
    obtain ⟨r, l', h', go', ba', sp', sv', sV', sh', q1, q2, q3, q4, q5, hX, hY⟩ := cj_send30 (fs := nI s) (wr := wr) (hc := hc) (va := va) (lo := lo) (sd := sd) (fr := fr) (be := be) (he := he) (x2 := v2) ha6 hta hB hA 64 0 0 h go ba sp sv sV sh rfl (by omega) hh hG hS hV
    refine cx_is_t ha6 hta (br_f (by decide) ?_)
    by_cases h2 : v2 = -1
    · exact br_t h2 ⟨65, hX _ (cy_is_t ha6 hta (br_f (by decide) (br_t h2 ⟨65, hY _ ⟨rfl, cw_mk ⟨hs, q2, q1, hW, hB, hH, hA, q3, hL, q4, q5⟩⟩⟩)))⟩
    · refine br_f h2 ?_
      by_cases h3 : cw_is th v2
      · obtain ⟨b, hb6, rfl, htb⟩ := h3
        exact cx_is_t hb6 htb (br_f (by decide) ⟨65, hX _ (cy_is_t ha6 hta (br_f (by decide) (br_f h2 (cy_is_t hb6 htb (br_f (by decide) ⟨65, hY _ ⟨rfl, cw_mk ⟨hs, q2, q1, hW, hB, hH, hA, q3, hL, q4, q5⟩⟩⟩)))))⟩)
      · exact cx_is_f h3 (br_t rfl (cy_is_t ha6 hta (br_f (by decide) (br_f h2 (cy_is_f h3 (br_t rfl ⟨rfl, cw_mk ⟨hs, hh, hl, hW, hB, hH, hA, hG, hL, hS, hV⟩⟩))))))
  · exact cx_is_f h1 (br_t rfl (cy_is_f h1 (br_t rfl ⟨rfl, cw_mk ⟨hs, hh, hl, hW, hB, hH, hA, hG, hL, hS, hV⟩⟩)))
end
end
