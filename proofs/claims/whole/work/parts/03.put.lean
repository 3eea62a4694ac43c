section
variable {fs fh fl : Int32} {th wr bk hc va go lo sp sv sh sd fr ha be ba sV he : Nat → Int32}
theorem cx_put28 {v p c : Nat} {e : Int32} (hx : 64 * v + p < 384) (hc80 : c ≤ 80) {P : Int32 → SX → Prop} (hP : P (if ¬ c = 0 ∧ hc (c - 1) - 1 = 0 then 1 else 0) (fs, fh, fl, th, wr, upd bk (64 * v + p) e, if c = 0 then hc else upd hc (c - 1) (hc (c - 1) - 1), va, go, lo, sp, sv, sh, sd)) : wX_putBlock_28 P (nI v) (nI p) e (nI c - 1) fs fh fl th wr bk hc va go lo sp sv sh sd := by
  unfold wX_putBlock_28
  rw [cw_ix1, cw_cl (by omega)]
  refine ⟨cw_in hx (by decide), nm_e ?_⟩
  by_cases h0 : c = 0
  · subst h0
    exact br_t cw_em1 hP
  · rw [if_neg h0] at hP
    rw [cw_s1 (by omega), cw_cl (by omega)]
    have hi : vp_in (nI (c - 1)) 80 := cw_in (by omega) (by decide)
    refine br_f (cw_en1 _ (by omega)) ⟨hi, hi, nm_e ⟨hi, ?_⟩⟩
    rw [pk_us]
    by_cases hz : hc (c - 1) - 1 = 0
    · rw [if_pos ⟨h0, hz⟩] at hP
      exact br_t hz hP
    · rw [if_neg (fun z => hz z.2)] at hP
      exact br_f hz hP
/-- the holder counts behind a put of e where c was -/
def cw_h1 (hc : Nat → Int32) (e : Nat) : Nat → Int32 := if e = 0 then hc else upd hc (e - 1) (hc (e - 1) + 1)
def cw_h2 (hc : Nat → Int32) (c : Nat) : Nat → Int32 := if c = 0 then hc else upd hc (c - 1) (hc (c - 1) - 1)
theorem cw_h1_v {g : Nat → Nat} {e : Nat} (hh : cw_HC g hc) {b : Nat} (hb : b < 80) : cw_h1 hc e b = nI (cw_C g (b + 1) + (if e = b + 1 then 1 else 0)) := by
  unfold cw_h1
  by_cases h0 : e = 0
  · rw [if_pos h0, if_neg (by omega), hh b hb]; rfl
  · rw [if_neg h0]
    by_cases hb1 : b = e - 1
    · rw [hb1, pk_us, hh _ (by omega), if_pos (by omega), nI_1]
    · rw [pk_un hb1, hh b hb, if_neg (by omega)]; rfl
theorem cw_h12 {g : Nat → Nat} {x e : Nat} (hx : x < 384) (hg : g x ≤ 80) (hh : cw_HC g hc) : cw_HC (cw_up g x e) (cw_h2 (cw_h1 hc e) (g x)) := by
  intro b hb
  have key := cw_C_up (g := g) (e := e) hx (b + 1)
  unfold cw_h2
  by_cases h0 : g x = 0
  · rw [if_pos h0, cw_h1_v hh hb]
    rw [if_neg (show ¬ g x = b + 1 by omega)] at key
    exact congrArg nI (by omega)
  · rw [if_neg h0]
    by_cases hb1 : b = g x - 1
    · rw [if_pos (show g x = b + 1 by omega)] at key
      rw [← hb1, pk_us, cw_h1_v hh hb, ← key, nI_pred]
    · rw [pk_un hb1, cw_h1_v hh hb]
      rw [if_neg (show ¬ g x = b + 1 by omega)] at key
      exact congrArg nI (by omega)
theorem cw_bk_up {g : Nat → Nat} {x e : Nat} (he : e ≤ 80) (hb : cw_BK g bk) : cw_BK (cw_up g x e) (upd bk x (nI e - 1)) := by
  intro y hy
  by_cases h : y = x
  · subst h
    rw [cw_up_s, pk_us]
    exact ⟨he, rfl⟩
  · rw [cw_up_n h, pk_un h]
    exact hb y hy
/-- what a put answers -/
def cw_pr (g : Nat → Nat) (x e : Nat) : Nat := if ¬ g x = 0 ∧ cw_C (cw_up g x e) (g x) = 0 then 1 else 0
theorem cx_put {g : Nat → Nat} {v p e : Nat} (hv : v < 6) (hp : p < 64) (he : e ≤ 80) (hb : cw_BK g bk) (hh : cw_HC g hc) :
    ∃ bk' hc', cw_BK (cw_up g (64 * v + p) e) bk' ∧ cw_HC (cw_up g (64 * v + p) e) hc' ∧ ∀ P : Int32 → SX → Prop, P (nI (cw_pr g (64 * v + p) e)) (fs, fh, fl, th, wr, bk', hc', va, go, lo, sp, sv, sh, sd) → wpX_putBlock P (fs, fh, fl, th, wr, bk, hc, va, go, lo, sp, sv, sh, sd) (nI v) (nI p) (nI e - 1) := by
  have hx : 64 * v + p < 384 := by omega
  obtain ⟨hg, hbk⟩ := hb _ hx
  have hh' := cw_h12 (e := e) hx hg hh
  refine ⟨upd bk (64 * v + p) (nI e - 1), cw_h2 (cw_h1 hc e) (g (64 * v + p)), cw_bk_up he hb, hh', fun P hP => ?_⟩
  have hr : (if ¬ g (64 * v + p) = 0 ∧ cw_h1 hc e (g (64 * v + p) - 1) - 1 = 0 then (1 : Int32) else 0) = nI (cw_pr g (64 * v + p) e) := by
    unfold cw_pr
    by_cases h0 : g (64 * v + p) = 0
    · rw [if_neg (fun z => z.1 h0), if_neg (fun z => z.1 h0)]
      rfl
    · have h1 := hh' (g (64 * v + p) - 1) (by omega)
      unfold cw_h2 at h1
      rw [if_neg h0, pk_us, show g (64 * v + p) - 1 + 1 = g (64 * v + p) by omega] at h1
      have hl := cw_C_le (cw_up g (64 * v + p) e) (g (64 * v + p))
      by_cases hz : cw_C (cw_up g (64 * v + p) e) (g (64 * v + p)) = 0
      · rw [if_pos ⟨h0, by rw [h1, hz]; rfl⟩, if_pos ⟨h0, hz⟩]
        rfl
      · rw [if_neg (fun z => hz ((cw_z0 (by omega)).mp (h1.symm.trans z.2))), if_neg (fun z => hz z.2)]
        rfl
  have hP2 : P (if ¬ g (64 * v + p) = 0 ∧ cw_h1 hc e (g (64 * v + p) - 1) - 1 = 0 then (1 : Int32) else 0) (fs, fh, fl, th, wr, upd bk (64 * v + p) (nI e - 1), cw_h2 (cw_h1 hc e) (g (64 * v + p)), va, go, lo, sp, sv, sh, sd) := by
    rw [hr]
    exact hP
  have h28 := cx_put28 (hc := cw_h1 hc e) (bk := bk) (e := nI e - 1) hx hg hP2
  unfold wpX_putBlock
  dsimp only
  rw [cw_ix1, cw_cl (by omega), hbk]
  refine ⟨cw_in hx (by decide), nm_e ?_⟩
  by_cases h0 : e = 0
  · subst h0
    exact br_t cw_em1 h28
  · unfold cw_h1 at h28
    rw [if_neg h0] at h28
    have hi : vp_in (nI (e - 1)) 80 := cw_in (by omega) (by decide)
    rw [cw_s1 (by omega)] at h28 ⊢
    rw [cw_cl (by omega)]
    exact br_f (cw_en1 _ (by omega)) ⟨hi, hi, nm_e h28⟩
theorem cy_t23 {g : Nat → Nat} (h : cw_HA th g ha) (hg : ∀ x, x < 384 → g x ≤ 80) : ∀ (d j : Nat) (he : Nat → Int32), j + d = 384 → (∀ b, b < 80 → he (b + 1) = nI (cw_sum (fun x => if g x = b + 1 then 1 else 0) j)) →
    ∃ he', cw_HE g he' ∧ ∀ P : SY → Prop, P (fs, fh, fl, th, fr, ha, be, va, ba, lo, sV, he', sp, sh) → wY_tally_23 P fs fh fl (d + 1) (nI j) th fr ha be va ba lo sV he sp sh := by
  intro d
  induction d with
  | zero =>
    intro j he hj hi
    obtain rfl : j = 384 := by omega
    exact ⟨he, hi, fun P hP => br_t (show (384 : Int32) ≤ nI 384 by decide) hP⟩
  | succ d ih =>
    intro j he hj hi
    have hd : nI j / 64 = nI (j / 64) := pk_div (d := 64) (by omega) (by omega) (by omega)
    have hn : ¬ (384 : Int32) ≤ nI j := nI_ge (b := 384) (by omega) (by decide)
    have hin : vp_in (nI (j / 64)) 6 := cw_in (by omega) (by decide)
    by_cases ht : th (j / 64) = 0
    · have g0 := (h j (by omega)).1 ht
      obtain ⟨he', hE, hT⟩ := ih (j + 1) he (by omega) (fun b hb => by rw [hi b hb]; show _ = nI (_ + _); dsimp only; rw [if_neg (show ¬ g j = b + 1 by omega)]; rfl)
      refine ⟨he', hE, fun P hP => ?_⟩
      unfold wY_tally_23
      rw [hd, cw_cl (n := j / 64) (by omega)]
      exact br_f hn ⟨by decide, hin, br_t ht (nm_r (nI_1 j) (hT P hP))⟩
    · have ga := (h j (by omega)).2 ht
      have g80 := hg j (by omega)
      obtain ⟨he', hE, hT⟩ := ih (j + 1) (upd he (g j) (vp_nar .short ((he (g j) + 1).toInt16.toInt32))) (by omega) (fun b hb => by
        show _ = nI (_ + _)
        dsimp only
        by_cases e : g j = b + 1
        · have hs := cw_sum_le (f := fun x => if g x = b + 1 then 1 else 0) (M := 1) (fun x => cw_i1 _ _) j
          rw [if_pos e, e, pk_us, hi b hb, cw_sh2 (by omega)]
        · rw [if_neg e, pk_un (fun z => e z.symm), hi b hb]; rfl)
      refine ⟨he', hE, fun P hP => ?_⟩
      unfold wY_tally_23
      rw [hd, cw_cl (n := j / 64) (by omega), cw_cl (n := j) (by omega), ga, cw_cl (n := g j) (by omega)]
      have hi81 : vp_in (nI (g j)) 81 := cw_in (by omega) (by decide)
      exact br_f hn ⟨by decide, hin, br_f ht ⟨cw_in (by omega) (by decide), hi81, hi81, nm_e (nm_r (nI_1 j) (hT P hP))⟩⟩
theorem cy_t2 {g : Nat → Nat} (h : cw_HA th g ha) (hg : ∀ x, x < 384 → g x ≤ 80) : ∀ (d j : Nat) (he : Nat → Int32), j + d = 81 → (∀ b, b < j → he b = 0) →
    ∃ he', cw_HE g he' ∧ ∀ P : SY → Prop, P (fs, fh, fl, th, fr, ha, be, va, ba, lo, sV, he', sp, sh) → wY_tally_2 P fs fh fl (d + 1) (nI j) th fr ha be va ba lo sV he sp sh := by
  intro d
  induction d with
  | zero =>
    intro j he hj hi
    obtain rfl : j = 81 := by omega
    obtain ⟨he', hE, hT⟩ := cy_t23 (fs := fs) (fh := fh) (fl := fl) (fr := fr) (be := be) (va := va) (ba := ba) (lo := lo) (sV := sV) (sp := sp) (sh := sh) h hg 384 0 he rfl (fun b hb => hi (b + 1) (by omega))
    exact ⟨he', hE, fun P hP => br_t (show (81 : Int32) ≤ nI 81 by decide) ⟨385, hT P hP⟩⟩
  | succ d ih =>
    intro j he hj hi
    obtain ⟨he', hE, hT⟩ := ih (j + 1) (upd he j (vp_nar .short 0)) (by omega) (fun b hb => by
      by_cases e : b = j
      · rw [e, pk_us]; exact cw_sh0
      · rw [pk_un e]; exact hi b (by omega))
    refine ⟨he', hE, fun P hP => ?_⟩
    unfold wY_tally_2
    rw [cw_cl (n := j) (by omega)]
    exact br_f (nI_ge (b := 81) (by omega) (by decide)) ⟨cw_in (by omega) (by decide), nm_e (nm_r (nI_1 j) (hT P hP))⟩
theorem cy_tally {g : Nat → Nat} (h : cw_HA th g ha) (hg : ∀ x, x < 384 → g x ≤ 80) : ∃ he', cw_HE g he' ∧ ∀ P : SY → Prop, P (fs, fh, fl, th, fr, ha, be, va, ba, lo, sV, he', sp, sh) → wpY_tally P (fs, fh, fl, th, fr, ha, be, va, ba, lo, sV, he, sp, sh) := by
  obtain ⟨he', hE, hT⟩ := cy_t2 (fs := fs) (fh := fh) (fl := fl) (fr := fr) (be := be) (va := va) (ba := ba) (lo := lo) (sV := sV) (sp := sp) (sh := sh) h hg 81 0 he rfl (fun b hb => absurd hb (Nat.not_lt_zero b))
  exact ⟨he', hE, fun P hP => ⟨82, hT P hP⟩⟩
theorem cj_least2 : ∀ d j : Nat, j + d = 6 →
    (∃ v, v < 6 ∧ th v = 0 ∧ (∀ P : Int32 → Prop, P (nI v) → wX_leastAbsentVolume_2 P fs fh fl th wr bk hc va go lo sp sv sh sd (d + 1) (nI j)) ∧ (∀ P : Int32 → Prop, P (nI v) → wY_least_2 P fs fh fl th fr ha be va ba lo sV he sp sh (d + 1) (nI j))) ∨
    ((∀ P : Int32 → Prop, P (-1) → wX_leastAbsentVolume_2 P fs fh fl th wr bk hc va go lo sp sv sh sd (d + 1) (nI j)) ∧ (∀ P : Int32 → Prop, P (-2) → wY_least_2 P fs fh fl th fr ha be va ba lo sV he sp sh (d + 1) (nI j))) := by
  intro d
  induction d with
  | zero =>
    intro j hj
    obtain rfl : j = 6 := by omega
    have h : (6 : Int32) ≤ nI 6 := by decide
    exact Or.inr ⟨fun P hP => br_t h hP, fun P hP => br_t h hP⟩
  | succ d ih =>
    intro j hj
    have h : ¬ (6 : Int32) ≤ nI j := nI_ge (b := 6) (by omega) (by decide)
    have hi : vp_in (nI j) 6 := cw_in (by omega) (by decide)
    have hcl : (nI j).toNatClampNeg = j := cw_cl (by omega)
    by_cases z : th j = 0
    · have z' : th (nI j).toNatClampNeg = 0 := by rw [hcl]; exact z
      exact Or.inl ⟨j, by omega, z, fun P hP => br_f h ⟨hi, br_t z' hP⟩, fun P hP => br_f h ⟨hi, br_t z' hP⟩⟩
    · have z' : ¬ th (nI j).toNatClampNeg = 0 := by rw [hcl]; exact z
      rcases ih (j + 1) (by omega) with ⟨v, hv, ht, hX, hY⟩ | ⟨hX, hY⟩
      · exact Or.inl ⟨v, hv, ht, fun P hP => br_f h ⟨hi, br_f z' (nm_r (nI_1 j) (hX P hP))⟩, fun P hP => br_f h ⟨hi, br_f z' (nm_r (nI_1 j) (hY P hP))⟩⟩
      · exact Or.inr ⟨fun P hP => br_f h ⟨hi, br_f z' (nm_r (nI_1 j) (hX P hP))⟩, fun P hP => br_f h ⟨hi, br_f z' (nm_r (nI_1 j) (hY P hP))⟩⟩
theorem cj_least : (∃ v, v < 6 ∧ th v = 0 ∧ (∀ P : Int32 → Prop, P (nI v) → wpX_leastAbsentVolume P (fs, fh, fl, th, wr, bk, hc, va, go, lo, sp, sv, sh, sd)) ∧ (∀ P : Int32 → Prop, P (nI v) → wpY_least P (fs, fh, fl, th, fr, ha, be, va, ba, lo, sV, he, sp, sh))) ∨
    ((∀ P : Int32 → Prop, P (-1) → wpX_leastAbsentVolume P (fs, fh, fl, th, wr, bk, hc, va, go, lo, sp, sv, sh, sd)) ∧ (∀ P : Int32 → Prop, P (-2) → wpY_least P (fs, fh, fl, th, fr, ha, be, va, ba, lo, sV, he, sp, sh))) := by
  rcases cj_least2 (fs := fs) (fh := fh) (fl := fl) (th := th) (wr := wr) (bk := bk) (hc := hc) (va := va) (go := go) (lo := lo) (sp := sp) (sv := sv) (sh := sh) (sd := sd) (fr := fr) (ha := ha) (be := be) (ba := ba) (sV := sV) (he := he) 6 0 rfl with ⟨v, hv, ht, hX, hY⟩ | ⟨hX, hY⟩
  · exact Or.inl ⟨v, hv, ht, fun P hP => ⟨7, hX P hP⟩, fun P hP => ⟨7, hY P hP⟩⟩
  · exact Or.inr ⟨fun P hP => ⟨7, hX P hP⟩, fun P hP => ⟨7, hY P hP⟩⟩
theorem cj_free2 {g : Nat → Nat} (hh : cw_HC g hc) (hE : cw_HE g he) : ∀ d j : Nat, j + d = 80 →
    (∃ b, b < 80 ∧ cw_C g (b + 1) = 0 ∧ (∀ P : Int32 → Prop, P (nI b) → wX_leastFreeBlock_2 P fs fh fl th wr bk hc va go lo sp sv sh sd (d + 1) (nI j)) ∧ (∀ P : Int32 → SY → Prop, P (nI b) (fs, fh, fl, th, fr, ha, be, va, ba, lo, sV, he, sp, sh) → wY_free_6 P fs fh fl th fr ha be va ba lo sV he sp sh (d + 1) (nI j))) ∨
    ((∀ P : Int32 → Prop, P (-2) → wX_leastFreeBlock_2 P fs fh fl th wr bk hc va go lo sp sv sh sd (d + 1) (nI j)) ∧ (∀ P : Int32 → SY → Prop, P (-1) (fs, fh, fl, th, fr, ha, be, va, ba, lo, sV, he, sp, sh) → wY_free_6 P fs fh fl th fr ha be va ba lo sV he sp sh (d + 1) (nI j))) := by
  intro d
  induction d with
  | zero =>
    intro j hj
    obtain rfl : j = 80 := by omega
    have h : (80 : Int32) ≤ nI 80 := by decide
    exact Or.inr ⟨fun P hP => br_t h hP, fun P hP => br_t h hP⟩
  | succ d ih =>
    intro j hj
    have h : ¬ (80 : Int32) ≤ nI j := nI_ge (b := 80) (by omega) (by decide)
    have hi : vp_in (nI j) 80 := cw_in (by omega) (by decide)
    have hi1 : vp_in (nI j + 1) 81 := by rw [nI_1]; exact cw_in (by omega) (by decide)
    have eX : hc (nI j).toNatClampNeg = nI (cw_C g (j + 1)) := by rw [cw_cl (by omega)]; exact hh j (by omega)
    have eY : he (nI j + 1).toNatClampNeg = nI (cw_C g (j + 1)) := by rw [nI_1, cw_cl (by omega)]; exact hE j (by omega)
    have hl := cw_C_le g (j + 1)
    have hz : nI (cw_C g (j + 1)) = 0 ↔ cw_C g (j + 1) = 0 := cw_z0 (by omega)
    by_cases z : cw_C g (j + 1) = 0
    · exact Or.inl ⟨j, by omega, z, fun P hP => br_f h ⟨hi, br_t (eX.trans (hz.mpr z)) hP⟩, fun P hP => br_f h ⟨hi1, br_t (eY.trans (hz.mpr z)) hP⟩⟩
    · have zX : ¬ hc (nI j).toNatClampNeg = 0 := fun q => z (hz.mp (eX.symm.trans q))
      have zY : ¬ he (nI j + 1).toNatClampNeg = 0 := fun q => z (hz.mp (eY.symm.trans q))
      rcases ih (j + 1) (by omega) with ⟨v, hv, ht, hX, hY⟩ | ⟨hX, hY⟩
      · exact Or.inl ⟨v, hv, ht, fun P hP => br_f h ⟨hi, br_f zX (nm_r (nI_1 j) (hX P hP))⟩, fun P hP => br_f h ⟨hi1, br_f zY (nm_r (nI_1 j) (hY P hP))⟩⟩
      · exact Or.inr ⟨fun P hP => br_f h ⟨hi, br_f zX (nm_r (nI_1 j) (hX P hP))⟩, fun P hP => br_f h ⟨hi1, br_f zY (nm_r (nI_1 j) (hY P hP))⟩⟩
end
