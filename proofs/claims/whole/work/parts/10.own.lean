section
variable {fs fh fl : Int32} {th wr bk hc va go lo sp sv sh sd fr ha be ba sV he : Nat → Int32}
/-- how often c stands in volume v's first j places -/
def cw_hr (g : Nat → Nat) (v c j : Nat) : Nat := cw_sum (fun p => if g (64 * v + p) = c then 1 else 0) j
theorem cw_hr_le (g : Nat → Nat) (v c j : Nat) : cw_hr g v c j ≤ j := by
  have := cw_sum_le (f := fun p => if g (64 * v + p) = c then 1 else 0) (M := 1) (fun x => cw_i1 _ _) j
  unfold cw_hr
  omega
theorem cw_hr_s (g : Nat → Nat) (v c j : Nat) : cw_hr g v c (j + 1) = cw_hr g v c j + (if g (64 * v + j) = c then 1 else 0) := rfl
/-- block b is held by v alone -/
def cw_fo (g : Nat → Nat) (v : Nat) : Nat → Nat := fun b => if 0 < cw_C g (b + 1) ∧ cw_hr g v (b + 1) 64 = cw_C g (b + 1) then 1 else 0
theorem cw_fo_s (g : Nat → Nat) (v j : Nat) : cw_sum (cw_fo g v) (j + 1) = cw_sum (cw_fo g v) j + cw_fo g v j := rfl
theorem cx_hw5 {g : Nat → Nat} {v b : Nat} (hv : v < 6) (hb : b < 80) (hB : cw_BK g bk) {P : Int32 → Prop} (hP : P (nI (cw_hr g v (b + 1) 64))) : ∀ d j : Nat, j + d = 64 → wX_holdersWithin_5 P (nI v) (nI b) fs fh fl th wr bk hc va go lo sp sv sh sd (d + 1) (nI (cw_hr g v (b + 1) j)) (nI j) := by
  intro d
  induction d with
  | zero =>
    intro j hj
    obtain rfl : j = 64 := by omega
    exact br_t (show (64 : Int32) ≤ nI 64 by decide) hP
  | succ d ih =>
    intro j hj
    obtain ⟨g80, eB⟩ := hB (64 * v + j) (by omega)
    have ih' := ih (j + 1) (by omega)
    rw [cw_hr_s] at ih'
    unfold wX_holdersWithin_5
    rw [cw_ix1, cw_cl (n := 64 * v + j) (by omega), eB, ← cw_p1 b, cw_eq (by omega) (by omega)]
    refine br_f (nI_ge (b := 64) (by omega) (by decide)) ⟨cw_in (by omega) (by decide), ?_⟩
    rw [cw_p1 b]
    by_cases e : g (64 * v + j) = b + 1
    · rw [if_pos e] at ih'
      exact br_t e (nm_r (nI_1 _) (nm_r (nI_1 j) ih'))
    · rw [if_neg e] at ih'
      exact br_f e (nm_r (nI_1 j) ih')
theorem cx_own14 {g : Nat → Nat} {v : Nat} (hv : v < 6) (hB : cw_BK g bk) (hH : cw_HC g hc) {P : Int32 → Prop} (hP : P (nI (cw_sum (cw_fo g v) 80))) : ∀ d j : Nat, j + d = 80 → wX_own_14 P (nI v) fs fh fl th wr bk hc va go lo sp sv sh sd (d + 1) (nI (cw_sum (cw_fo g v) j)) (nI j) := by
  intro d
  induction d with
  | zero =>
    intro j hj
    obtain rfl : j = 80 := by omega
    exact br_t (show (80 : Int32) ≤ nI 80 by decide) hP
  | succ d ih =>
    intro j hj
    have hj80 : j < 80 := by omega
    have ih' := ih (j + 1) (by omega)
    rw [cw_fo_s] at ih'
    have hl := cw_C_le g (j + 1)
    have hl2 := cw_hr_le g v (j + 1) 64
    have h : ¬ (80 : Int32) ≤ nI j := nI_ge (b := 80) (by omega) (by decide)
    unfold wX_own_14
    rw [cw_cl (n := j) (by omega), hH j hj80]
    by_cases hu : 0 < cw_C g (j + 1)
    · refine br_f h (cx_used_t hj80 hH hu (br_f (by decide) ⟨65, cx_hw5 hv hj80 hB ?_ 64 0 rfl⟩))
      refine ⟨cw_in hj80 (by decide), ?_⟩
      rw [nI_eq (by omega) (by omega)]
      unfold cw_fo at ih'
      by_cases e : cw_hr g v (j + 1) 64 = cw_C g (j + 1)
      · rw [if_pos ⟨hu, e⟩] at ih'
        exact br_t e (nm_r (nI_1 _) (nm_r (nI_1 j) ih'))
      · rw [if_neg (fun z => e z.2)] at ih'
        exact br_f e (nm_r (nI_1 j) ih')
    · unfold cw_fo at ih'
      rw [if_neg (fun z => hu z.1)] at ih'
      exact br_f h (cx_used_z hj80 hH hu (br_t rfl (nm_r (nI_1 j) ih')))
theorem cy_own30 {g : Nat → Nat} {v b : Nat} {c : Int32} (hv : v < 6) (ht : ¬ th v = 0) (hb : b < 80) (hg : ∀ x, x < 384 → g x ≤ 80) (hA : cw_HA th g ha) (hE : cw_HE g he) {P : Int32 → SY → Prop} {J : Int32 → Int32 → Prop} (hP : J (c + nI (cw_fo g v b)) (nI (b + 1))) : ∀ d j : Nat, j + d = 64 → wY_own_30 P J (nI v) c (nI b) fs fh fl th fr ha be va ba lo sV he sp sh (d + 1) (nI (cw_hr g v (b + 1) j)) (nI j) := by
  intro d
  have hl := cw_C_le g (b + 1)
  have hl2 := cw_hr_le g v (b + 1) 64
  induction d with
  | zero =>
    intro j hj
    obtain rfl : j = 64 := by omega
    unfold wY_own_30
    rw [nI_1 b, cw_cl (n := b + 1) (by omega), hE b hb, cw_zl (by omega), nI_eq (by omega) (by omega)]
    unfold cw_fo at hP
    refine br_t (by decide) ?_
    by_cases h0 : cw_hr g v (b + 1) 64 = 0
    · rw [if_neg (by omega), nI_0, Int32.add_zero] at hP
      exact br_t h0 (nm_e hP)
    · refine br_f h0 ⟨cw_in (by omega) (by decide), ?_⟩
      by_cases e : cw_hr g v (b + 1) 64 = cw_C g (b + 1)
      · rw [if_pos ⟨by omega, e⟩] at hP
        exact br_t e (nm_e (nm_e hP))
      · rw [if_neg (fun z => e z.2), nI_0, Int32.add_zero] at hP
        exact br_f e (nm_e hP)
  | succ d ih =>
    intro j hj
    have g80 := hg (64 * v + j) (by omega)
    have eA := cw_ha_at hA hv ht (p := j) (by omega)
    have ih' := ih (j + 1) (by omega)
    rw [cw_hr_s] at ih'
    unfold wY_own_30
    rw [cw_ix2, cw_cl (n := 64 * v + j) (by omega), eA, nI_1 b, nI_eq (by omega) (by omega)]
    refine br_f (nI_ge (b := 64) (by omega) (by decide)) ⟨cw_in (by omega) (by decide), ?_⟩
    by_cases e : g (64 * v + j) = b + 1
    · rw [if_pos e] at ih'
      exact br_t e (nm_r (nI_1 _) (nm_r (nI_1 j) ih'))
    · rw [if_neg e] at ih'
      exact br_f e (nm_r (nI_1 j) ih')
theorem cy_own18 {g : Nat → Nat} {v : Nat} (hv : v < 6) (ht : ¬ th v = 0) (hg : ∀ x, x < 384 → g x ≤ 80) (hA : cw_HA th g ha) (hE : cw_HE g he) {P : Int32 → SY → Prop} (hP : P (nI (cw_sum (cw_fo g v) 80)) (fs, fh, fl, th, fr, ha, be, va, ba, lo, sV, he, sp, sh)) : ∀ d j : Nat, j + d = 80 → wY_own_18 P (nI v) fs fh fl th fr ha be va ba lo sV he sp sh (d + 1) (nI (cw_sum (cw_fo g v) j)) (nI j) := by
  intro d
  induction d with
  | zero =>
    intro j hj
    obtain rfl : j = 80 := by omega
    exact br_t (show (80 : Int32) ≤ nI 80 by decide) hP
  | succ d ih =>
    intro j hj
    have ih' := ih (j + 1) (by omega)
    rw [cw_fo_s, ← nI_add] at ih'
    exact br_f (nI_ge (b := 80) (by omega) (by decide)) ⟨65, cy_own30 hv ht (by omega) hg hA hE ih' 64 0 rfl⟩
theorem cy_own {g : Nat → Nat} {v : Nat} (hv : v < 6) (ht : ¬ th v = 0) (hg : ∀ x, x < 384 → g x ≤ 80) (hA : cw_HA th g ha) : ∃ he' : Nat → Int32, ∀ P : Int32 → SY → Prop, P (nI (cw_sum (cw_fo g v) 80)) (fs, fh, fl, th, fr, ha, be, va, ba, lo, sV, he', sp, sh) → wpY_own P (fs, fh, fl, th, fr, ha, be, va, ba, lo, sV, he, sp, sh) (nI v) := by
  obtain ⟨he', hE, hT⟩ := cy_tally (fs := fs) (fh := fh) (fl := fl) (fr := fr) (be := be) (va := va) (ba := ba) (lo := lo) (sV := sV) (he := he) (sp := sp) (sh := sh) hA hg
  refine ⟨he', fun P hP => ?_⟩
  unfold wpY_own
  dsimp only
  exact cy_is_t hv ht (br_f (by decide) (hT _ ⟨81, cy_own18 hv ht hg hA hE hP 80 0 rfl⟩))
theorem i_vc_own {k : Nat} {u : SX} {v : SY} (I : i_Rel k u v) (hk : k + 6 ≤ 3072) (v1 : Int32) : wpX_own (fun r => wpY_own (fun r' v' => r' = r ∧ i_Rel (k + 6) u v') v v1) u v1 := by
  obtain ⟨g, s, h, l, th, wr, bk, hc, va, go, lo, sp, sv, sh, sd, fr, ha, be, ba, sV, he, rfl, rfl, hs, hh, hl, hW, hB, hH, hA, hG, hL, hS, hV⟩ := I
  unfold wpX_own
  dsimp only
  by_cases h1 : cw_is th v1
  · obtain ⟨a, ha6, rfl, hta⟩ := h1
    obtain ⟨he', hY⟩ := cy_own (fs := nI s) (fh := nI h) (fl := nI l) (fr := fr) (be := be) (va := va) (ba := ba) (lo := lo) (sV := sV) (he := he) (sp := sp) (sh := sh) ha6 hta (cw_g80 hB) hA
    exact cx_is_t ha6 hta (br_f (by decide) ⟨81, cx_own14 ha6 hB hH (hY _ ⟨rfl, cw_mk ⟨hs, hh, hl, hW, hB, hH, hA, hG, hL, hS, hV⟩⟩) 80 0 rfl⟩)
  · refine cx_is_f h1 (br_t rfl ?_)
    unfold wpY_own
    dsimp only
    exact cy_is_f h1 (br_t rfl ⟨rfl, cw_mk ⟨hs, hh, hl, hW, hB, hH, hA, hG, hL, hS, hV⟩⟩)
/-! destroy -/
def cw_ff (g : Nat → Nat) (v j : Nat) : Nat → Nat := fun b => if 0 < cw_C g (b + 1) ∧ cw_C (cw_z g (64 * v) j) (b + 1) = 0 then 1 else 0
theorem cw_z_hr {g : Nat → Nat} {v c : Nat} (hv : v < 6) (hc : 0 < c) : ∀ j, j ≤ 64 → cw_C g c = cw_C (cw_z g (64 * v) j) c + cw_hr g v c j := by
  intro j
  induction j with
  | zero =>
    intro _
    rw [cw_z_0]
    rfl
  | succ j ih =>
    intro hj
    have ih' := ih (by omega)
    have key := cw_C_up (g := cw_z g (64 * v) j) (x := 64 * v + j) (e := 0) (by omega) c
    rw [cw_z_at, if_neg (show ¬ 0 = c by omega)] at key
    rw [cw_z_s, cw_hr_s]
    omega
theorem cw_ff_fo {g : Nat → Nat} {v : Nat} (hv : v < 6) : cw_sum (cw_ff g v 64) 80 = cw_sum (cw_fo g v) 80 := by
  apply cw_sum_congr
  intro b _
  have h := cw_z_hr (g := g) (c := b + 1) hv (by omega) 64 (by omega)
  unfold cw_ff cw_fo
  by_cases e : 0 < cw_C g (b + 1) ∧ cw_C (cw_z g (64 * v) 64) (b + 1) = 0
  · rw [if_pos e, if_pos ⟨e.1, by omega⟩]
  · rw [if_neg e, if_neg (fun z => e ⟨z.1, by omega⟩)]
theorem cw_ff_0 (g : Nat → Nat) (v : Nat) : cw_sum (cw_ff g v 0) 80 = 0 := by
  apply Classical.byContradiction
  intro h
  obtain ⟨b, _, hb⟩ := (cw_sum_pos 80).mp (Nat.pos_of_ne_zero h)
  unfold cw_ff at hb
  rw [cw_z_0] at hb
  rw [if_neg (by omega)] at hb
  exact absurd hb (Nat.lt_irrefl 0)
theorem cw_ff_s {g : Nat → Nat} {v j : Nat} (hv : v < 6) (hj : j < 64) (hg : ∀ x, x < 384 → g x ≤ 80) : cw_sum (cw_ff g v (j + 1)) 80 = cw_sum (cw_ff g v j) 80 + cw_pr (cw_z g (64 * v) j) (64 * v + j) 0 := by
  have hx : 64 * v + j < 384 := by omega
  have key := fun c => cw_C_up (g := cw_z g (64 * v) j) (x := 64 * v + j) (e := 0) hx c
  unfold cw_pr
  rw [cw_z_at] at key
  rw [cw_z_at]
  by_cases h0 : g (64 * v + j) = 0
  · rw [if_neg (fun z => z.1 h0), Nat.add_zero (cw_sum (cw_ff g v j) 80)]
    apply cw_sum_congr
    intro b _
    have k := key (b + 1)
    rw [if_neg (show ¬ g (64 * v + j) = b + 1 by omega), if_neg (show ¬ 0 = b + 1 by omega), ← cw_z_s] at k
    unfold cw_ff
    rw [show cw_C (cw_z g (64 * v) (j + 1)) (b + 1) = cw_C (cw_z g (64 * v) j) (b + 1) by omega]
  · have g80 := hg _ hx
    obtain ⟨c, ec⟩ : ∃ c, g (64 * v + j) = c + 1 := ⟨g (64 * v + j) - 1, by omega⟩
    have hu : 0 < cw_C g (c + 1) := cw_used hx ec
    rw [ec] at key ⊢
    have hp := cw_sum_pt (f := cw_ff g v j) (f' := cw_ff g v (j + 1)) (x := c) (fun b hb => by
      have k := key (b + 1)
      rw [if_neg (show ¬ c + 1 = b + 1 by omega), if_neg (show ¬ 0 = b + 1 by omega), ← cw_z_s] at k
      unfold cw_ff
      rw [show cw_C (cw_z g (64 * v) (j + 1)) (b + 1) = cw_C (cw_z g (64 * v) j) (b + 1) by omega]) 80 (by omega)
    have k := key (c + 1)
    rw [if_pos rfl, if_neg (show ¬ 0 = c + 1 by omega)] at k
    have e1 : cw_ff g v j c = 0 := if_neg (by omega)
    have e2 : cw_ff g v (j + 1) c = if ¬ c + 1 = 0 ∧ cw_C (cw_up (cw_z g (64 * v) j) (64 * v + j) 0) (c + 1) = 0 then 1 else 0 := by
      unfold cw_ff
      rw [cw_z_s]
      by_cases hz : cw_C (cw_up (cw_z g (64 * v) j) (64 * v + j) 0) (c + 1) = 0
      · rw [if_pos ⟨hu, hz⟩, if_pos ⟨by omega, hz⟩]
      · rw [if_neg (fun z => hz z.2), if_neg (fun z => hz z.2)]
    rw [← e2]
    omega
theorem cx_punch {g : Nat → Nat} {v p : Nat} (hv : v < 6) (hp : p < 64) (hb : cw_BK g bk) (hh : cw_HC g hc) :
    ∃ bk' hc', cw_BK (cw_up g (64 * v + p) 0) bk' ∧ cw_HC (cw_up g (64 * v + p) 0) hc' ∧ ∀ P : Int32 → SX → Prop, P (nI (cw_pr g (64 * v + p) 0)) (fs, fh, fl, th, wr, bk', hc', va, go, lo, sp, sv, sh, sd) → wpX_putBlock P (fs, fh, fl, th, wr, bk, hc, va, go, lo, sp, sv, sh, sd) (nI v) (nI p) (-1) := by
  obtain ⟨bk', hc', h1, h2, h3⟩ := cx_put (fs := fs) (fh := fh) (fl := fl) (th := th) (wr := wr) (va := va) (go := go) (lo := lo) (sp := sp) (sv := sv) (sh := sh) (sd := sd) (e := 0) hv hp (by omega) hb hh
  exact ⟨bk', hc', h1, h2, fun P hP => by have := h3 P hP; rw [cw_em1] at this; exact this⟩
theorem cx_des14 {g : Nat → Nat} {v : Nat} (hv : v < 6) (hg : ∀ x, x < 384 → g x ≤ 80) : ∀ (d j : Nat) (bk hc : Nat → Int32), j + d = 64 → cw_BK (cw_z g (64 * v) j) bk → cw_HC (cw_z g (64 * v) j) hc →
    ∃ bk' hc', cw_BK (cw_z g (64 * v) 64) bk' ∧ cw_HC (cw_z g (64 * v) 64) hc' ∧ ∀ P : Int32 → SX → Prop, P (nI (cw_sum (cw_fo g v) 80)) (fs, fh, fl, upd th v 0, wr, bk', hc', va, go, lo, sp, sv, sh, sd) → wX_destroy_14 P (nI v) (d + 1) (nI (cw_sum (cw_ff g v j) 80)) (nI j) fs fh fl th wr bk hc va go lo sp sv sh sd := by
  intro d
  induction d with
  | zero =>
    intro j bk hc hj hB hH
    obtain rfl : j = 64 := by omega
    refine ⟨bk, hc, hB, hH, fun P hP => ?_⟩
    unfold wX_destroy_14
    rw [cw_cl (n := v) (by omega), cw_b0, cw_ff_fo hv]
    exact br_t (by decide) ⟨cw_in hv (by decide), nm_e hP⟩
  | succ d ih =>
    intro j bk hc hj hB hH
    obtain ⟨bk1, hc1, hB1, hH1, hT1⟩ := cx_punch (fs := fs) (fh := fh) (fl := fl) (th := th) (wr := wr) (va := va) (go := go) (lo := lo) (sp := sp) (sv := sv) (sh := sh) (sd := sd) (p := j) hv (by omega) hB hH
    rw [← cw_z_s] at hB1 hH1
    obtain ⟨bk2, hc2, hB2, hH2, hT2⟩ := ih (j + 1) bk1 hc1 (by omega) hB1 hH1
    refine ⟨bk2, hc2, hB2, hH2, fun P hP => br_f (nI_ge (b := 64) (by omega) (by decide)) (hT1 _ (nm_r ?_ (nm_r (nI_1 j) (hT2 P hP))))⟩
    rw [nI_add, cw_ff_s hv (by omega) hg]
theorem cw_RG_sub {g g' : Nat → Nat} (hR : cw_RG g go ba) (h : ∀ b, b < 80 → 0 < cw_C g' (b + 1) → 0 < cw_C g (b + 1)) : cw_RG g' go ba := fun b hb hu => hR b hb (h b hb hu)
theorem i_vc_destroy {k : Nat} {u : SX} {v : SY} (I : i_Rel k u v) (hk : k + 6 ≤ 3072) (v1 : Int32) : wpX_destroy (fun r u' => wpY_destroy (fun r' v' => r' = r ∧ i_Rel (k + 6) u' v') v v1) u v1 := by
  obtain ⟨g, s, h, l, th, wr, bk, hc, va, go, lo, sp, sv, sh, sd, fr, ha, be, ba, sV, he, rfl, rfl, hs, hh, hl, hW, hB, hH, hA, hG, hL, hS, hV⟩ := I
  unfold wpX_destroy
  dsimp only
  by_cases h1 : cw_is th v1
  · obtain ⟨a, ha6, rfl, hta⟩ := h1
    obtain ⟨he', hY⟩ := cy_own (fs := nI s) (fh := nI h) (fl := nI l) (fr := fr) (be := be) (va := va) (ba := ba) (lo := lo) (sV := sV) (he := he) (sp := sp) (sh := sh) ha6 hta (cw_g80 hB) hA
    obtain ⟨bk', hc', hB', hH', hT⟩ := cx_des14 (fs := nI s) (fh := nI h) (fl := nI l) (th := th) (wr := wr) (va := va) (go := go) (lo := lo) (sp := sp) (sv := sv) (sh := sh) (sd := sd) (g := g) ha6 (cw_g80 hB) 64 0 bk hc rfl (by rw [cw_z_0]; exact hB) (by rw [cw_z_0]; exact hH)
    rw [cw_ff_0] at hT
    refine cx_is_t ha6 hta (br_f (by decide) ⟨65, hT _ ?_⟩)
    unfold wpY_destroy
    dsimp only
    rw [cw_cl (n := a) (by omega), cw_b0]
    refine cy_is_t ha6 hta (br_f (by decide) (hY _ ⟨cw_in ha6 (by decide), nm_e ⟨rfl, cw_mk ⟨hs, hh, hl, fun w hw ht => ?_, hB', hH', fun x hx => ?_, cw_RG_sub hG (fun b hb hu => ?_), hL, hS, hV⟩⟩⟩))
    · by_cases e : w = a
      · rw [e, pk_us] at ht
        exact absurd rfl ht
      · rw [pk_un e] at ht
        exact hW w hw ht
    · by_cases e : x / 64 = a
      · rw [e, pk_us]
        exact ⟨fun _ => cw_z_in (by omega), fun z => absurd rfl z⟩
      · rw [pk_un e, cw_z_out (by omega)]
        exact hA x hx
    · have := cw_z_hr (g := g) (v := a) (c := b + 1) ha6 (by omega) 64 (by omega)
      omega
  · refine cx_is_f h1 (br_t rfl ?_)
    unfold wpY_destroy
    dsimp only
    exact cy_is_f h1 (br_t rfl ⟨rfl, cw_mk ⟨hs, hh, hl, hW, hB, hH, hA, hG, hL, hS, hV⟩⟩)
end
