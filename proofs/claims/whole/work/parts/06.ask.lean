section
variable {fs fh fl : Int32} {th wr bk hc va go lo sp sv sh sd fr ha be ba sV he : Nat → Int32}
theorem cx_boe_t {v p : Nat} (hv : v < 6) (ht : ¬ th v = 0) (hp : p < 64) {P : Int32 → Prop} (hP : P (bk (64 * v + p))) : wpX_blockOrEmpty P (fs, fh, fl, th, wr, bk, hc, va, go, lo, sp, sv, sh, sd) (nI v) (nI p) := by
  unfold wpX_blockOrEmpty
  dsimp only
  rw [cw_ix1, cw_cl (by omega)]
  exact cx_is_t hv ht (br_f (by decide) (cx_place_t hp (br_f (by decide) ⟨cw_in (by omega) (by decide), hP⟩)))
theorem cx_boe_f {x y : Int32} (hn : ¬ (cw_is th x ∧ cw_lt 64 y)) {P : Int32 → Prop} (hP : P (-1)) : wpX_blockOrEmpty P (fs, fh, fl, th, wr, bk, hc, va, go, lo, sp, sv, sh, sd) x y := by
  unfold wpX_blockOrEmpty
  dsimp only
  by_cases h : cw_is th x
  · obtain ⟨v, hv, e, ht⟩ := id h
    subst e
    exact cx_is_t hv ht (br_f (by decide) (cx_place_f (fun z => hn ⟨h, z⟩) (br_t rfl hP)))
  · exact cx_is_f h (br_t rfl hP)
theorem cy_bat_t {v p : Nat} (hv : v < 6) (ht : ¬ th v = 0) (hp : p < 64) {P : Int32 → Prop} (hP : P (ha (64 * v + p) - 1)) : wpY_blockAt P (fs, fh, fl, th, fr, ha, be, va, ba, lo, sV, he, sp, sh) (nI v) (nI p) := by
  unfold wpY_blockAt
  dsimp only
  rw [cw_ix2, cw_cl (by omega)]
  exact cy_is_t hv ht (br_f (by decide) (cy_out_t hp (by decide) (br_t rfl ⟨cw_in (by omega) (by decide), hP⟩)))
theorem cy_bat_f {x y : Int32} (hn : ¬ (cw_is th x ∧ cw_lt 64 y)) {P : Int32 → Prop} (hP : P (-1)) : wpY_blockAt P (fs, fh, fl, th, fr, ha, be, va, ba, lo, sV, he, sp, sh) x y := by
  unfold wpY_blockAt
  dsimp only
  by_cases h : cw_is th x
  · obtain ⟨v, hv, e, ht⟩ := id h
    subst e
    exact cy_is_t hv ht (br_f (by decide) (cy_out_f (n := 64) (fun z => hn ⟨h, z⟩) (by decide) (br_f (by decide) hP)))
  · exact cy_is_f h (br_t rfl hP)
theorem cw_ha_at {g : Nat → Nat} {v p : Nat} (hA : cw_HA th g ha) (hv : v < 6) (ht : ¬ th v = 0) (hp : p < 64) : ha (64 * v + p) = nI (g (64 * v + p)) :=
  (hA (64 * v + p) (by omega)).2 (by rw [show (64 * v + p) / 64 = v by omega]; exact ht)
theorem i_vc_blockAt {k : Nat} {u : SX} {v : SY} (I : i_Rel k u v) (hk : k + 6 ≤ 3072) (v1 : Int32) (v2 : Int32) : wpX_blockAt (fun r => wpY_blockAt (fun r' => r' = r ∧ i_Rel (k + 6) u v) v v1 v2) u v1 v2 := by
  obtain ⟨g, s, h, l, th, wr, bk, hc, va, go, lo, sp, sv, sh, sd, fr, ha, be, ba, sV, he, rfl, rfl, hs, hh, hl, hW, hB, hH, hA, hG, hL, hS, hV⟩ := I
  unfold wpX_blockAt
  dsimp only
  by_cases hn : cw_is th v1 ∧ cw_lt 64 v2
  · obtain ⟨⟨a, ha6, rfl, ht⟩, ⟨p, hp, rfl⟩⟩ := hn
    refine cx_boe_t ha6 ht hp (cy_bat_t ha6 ht hp ⟨?_, cw_mk ⟨hs, hh, hl, hW, hB, hH, hA, hG, hL, hS, hV⟩⟩)
    rw [cw_ha_at hA ha6 ht hp, (hB _ (by omega)).2]
  · exact cx_boe_f hn (cy_bat_f hn ⟨rfl, cw_mk ⟨hs, hh, hl, hW, hB, hH, hA, hG, hL, hS, hV⟩⟩)
theorem i_vc_holders {k : Nat} {u : SX} {v : SY} (I : i_Rel k u v) (hk : k + 6 ≤ 3072) (v1 : Int32) : wpX_holders (fun r => wpY_holders (fun r' v' => r' = r ∧ i_Rel (k + 6) u v') v v1) u v1 := by
  obtain ⟨g, s, h, l, th, wr, bk, hc, va, go, lo, sp, sv, sh, sd, fr, ha, be, ba, sV, he, rfl, rfl, hs, hh, hl, hW, hB, hH, hA, hG, hL, hS, hV⟩ := I
  unfold wpX_holders
  dsimp only
  obtain ⟨he', hE, hT⟩ := cy_tally (fs := nI s) (fh := nI h) (fl := nI l) (fr := fr) (be := be) (va := va) (ba := ba) (lo := lo) (sV := sV) (he := he) (sp := sp) (sh := sh) hA (cw_g80 hB)
  by_cases hn : cw_lt 80 v1
  · obtain ⟨b, hb, rfl⟩ := hn
    have hY : ∀ r, nI (cw_C g (b + 1)) = r → wpY_holders (fun r' v' => r' = r ∧ i_Rel (k + 6) (nI s, nI h, nI l, th, wr, bk, hc, va, go, lo, sp, sv, sh, sd) v') (nI s, nI h, nI l, th, fr, ha, be, va, ba, lo, sV, he, sp, sh) (nI b) := by
      intro r hr
      unfold wpY_holders
      dsimp only
      refine hT _ (cy_out_t (n := 80) hb (by decide) (br_t rfl ?_))
      dsimp only
      rw [nI_1, cw_cl (by omega), hE b hb]
      exact ⟨cw_in (by omega) (by decide), hr, cw_mk ⟨hs, hh, hl, hW, hB, hH, hA, hG, hL, hS, hV⟩⟩
    by_cases hu : 0 < cw_C g (b + 1)
    · refine cx_used_t hb hH hu (br_f (by decide) ⟨cw_in hb (by decide), hY _ ?_⟩)
      rw [cw_cl (by omega), hH b hb]
    · refine cx_used_z hb hH hu (br_t rfl (hY _ ?_))
      rw [Nat.eq_zero_of_not_pos hu]
      rfl
  · refine cx_used_f hn (br_t rfl ?_)
    unfold wpY_holders
    dsimp only
    exact hT _ (cy_out_f (n := 80) hn (by decide) (br_f (by decide) ⟨rfl, cw_mk ⟨hs, hh, hl, hW, hB, hH, hA, hG, hL, hS, hV⟩⟩))
theorem cj_differ2 {g : Nat → Nat} {v w : Nat} (hv : v < 6) (htv : ¬ th v = 0) (hw : w < 6) (htw : ¬ th w = 0) (hB : cw_BK g bk) (hA : cw_HA th g ha) : ∀ (d j : Nat) (c : Int32), j + d = 64 →
    ∃ r, (∀ P : Int32 → Prop, P r → wX_differ_23 P (nI v) (nI w) fs fh fl th wr bk hc va go lo sp sv sh sd (d + 1) c (nI j)) ∧ (∀ P : Int32 → Prop, P r → wY_differ_23 P (nI v) (nI w) fs fh fl th fr ha be va ba lo sV he sp sh (d + 1) c (nI j)) := by
  intro d
  induction d with
  | zero =>
    intro j c hj
    obtain rfl : j = 64 := by omega
    have h : (64 : Int32) ≤ nI 64 := by decide
    exact ⟨c, fun P hP => br_t h hP, fun P hP => br_t h hP⟩
  | succ d ih =>
    intro j c hj
    have h : ¬ (64 : Int32) ≤ nI j := nI_ge (b := 64) (by omega) (by decide)
    have iv : vp_in (nI (64 * v + j)) 384 := cw_in (by omega) (by decide)
    have iw : vp_in (nI (64 * w + j)) 384 := cw_in (by omega) (by decide)
    obtain ⟨gv, bv⟩ := hB (64 * v + j) (by omega)
    obtain ⟨gw, bw⟩ := hB (64 * w + j) (by omega)
    have av := cw_ha_at hA hv htv (p := j) (by omega)
    have aw := cw_ha_at hA hw htw (p := j) (by omega)
    unfold wX_differ_23 wY_differ_23
    rw [cw_ix1, cw_ix1, cw_ix2, cw_ix2, cw_cl (n := 64 * v + j) (by omega), cw_cl (n := 64 * w + j) (by omega), bv, bw, av, aw, cw_eq (by omega) (by omega), nI_eq (by omega) (by omega)]
    by_cases e : g (64 * v + j) = g (64 * w + j)
    · obtain ⟨r, hX, hY⟩ := ih (j + 1) c (by omega)
      exact ⟨r, fun P hP => br_f h ⟨iv, iw, br_t e (nm_r (nI_1 j) (hX P hP))⟩, fun P hP => br_f h ⟨iv, iw, br_t e (nm_r (nI_1 j) (hY P hP))⟩⟩
    · obtain ⟨r, hX, hY⟩ := ih (j + 1) (c + 1) (by omega)
      exact ⟨r, fun P hP => br_f h ⟨iv, iw, br_f e (nm_e (nm_r (nI_1 j) (hX P hP)))⟩, fun P hP => br_f h ⟨iv, iw, br_f e (nm_e (nm_r (nI_1 j) (hY P hP)))⟩⟩
theorem i_vc_differ {k : Nat} {u : SX} {v : SY} (I : i_Rel k u v) (hk : k + 6 ≤ 3072) (v1 : Int32) (v2 : Int32) : wpX_differ (fun r => wpY_differ (fun r' => r' = r ∧ i_Rel (k + 6) u v) v v1 v2) u v1 v2 := by
  obtain ⟨g, s, h, l, th, wr, bk, hc, va, go, lo, sp, sv, sh, sd, fr, ha, be, ba, sV, he, rfl, rfl, hs, hh, hl, hW, hB, hH, hA, hG, hL, hS, hV⟩ := I
  unfold wpX_differ wpY_differ
  dsimp only
  by_cases h1 : cw_is th v1
  · obtain ⟨a, ha6, rfl, hta⟩ := h1
    refine cx_is_t ha6 hta (br_f (by decide) ?_)
    by_cases h2 : cw_is th v2
    · obtain ⟨b, hb6, rfl, htb⟩ := h2
      obtain ⟨r, hX, hY⟩ := cj_differ2 (fs := nI s) (fh := nI h) (fl := nI l) (th := th) (wr := wr) (bk := bk) (hc := hc) (va := va) (go := go) (lo := lo) (sp := sp) (sv := sv) (sh := sh) (sd := sd) (fr := fr) (ha := ha) (be := be) (ba := ba) (sV := sV) (he := he) ha6 hta hb6 htb hB hA 64 0 0 rfl
      exact cx_is_t hb6 htb (br_f (by decide) ⟨65, hX _ (cy_is_t ha6 hta (br_f (by decide) (cy_is_t hb6 htb (br_f (by decide) ⟨65, hY _ ⟨rfl, cw_mk ⟨hs, hh, hl, hW, hB, hH, hA, hG, hL, hS, hV⟩⟩⟩))))⟩)
    · exact cx_is_f h2 (br_t rfl (cy_is_t ha6 hta (br_f (by decide) (cy_is_f h2 (br_t rfl ⟨rfl, cw_mk ⟨hs, hh, hl, hW, hB, hH, hA, hG, hL, hS, hV⟩⟩)))))
  · exact cx_is_f h1 (br_t rfl (cy_is_f h1 (br_t rfl ⟨rfl, cw_mk ⟨hs, hh, hl, hW, hB, hH, hA, hG, hL, hS, hV⟩⟩)))
theorem cj_diffe2 {g : Nat → Nat} {v w : Nat} {q : Int32} (hv : v < 6) (htv : ¬ th v = 0) (hw : w < 6) (htw : ¬ th w = 0) (hB : cw_BK g bk) (hA : cw_HA th g ha) : ∀ (d j : Nat) (c : Int32), j + d = 64 →
    ∃ r, (∀ P : Int32 → Prop, P r → wX_difference_24 P (nI v) (nI w) q fs fh fl th wr bk hc va go lo sp sv sh sd (d + 1) c (nI j)) ∧ (∀ P : Int32 → Prop, P r → wY_difference_24 P (nI v) (nI w) q fs fh fl th fr ha be va ba lo sV he sp sh (d + 1) c (nI j)) := by
  intro d
  induction d with
  | zero =>
    intro j c hj
    obtain rfl : j = 64 := by omega
    have h : (64 : Int32) ≤ nI 64 := by decide
    exact ⟨-1, fun P hP => br_t h hP, fun P hP => br_t h hP⟩
  | succ d ih =>
    intro j c hj
    have h : ¬ (64 : Int32) ≤ nI j := nI_ge (b := 64) (by omega) (by decide)
    have iv : vp_in (nI (64 * v + j)) 384 := cw_in (by omega) (by decide)
    have iw : vp_in (nI (64 * w + j)) 384 := cw_in (by omega) (by decide)
    obtain ⟨gv, bv⟩ := hB (64 * v + j) (by omega)
    obtain ⟨gw, bw⟩ := hB (64 * w + j) (by omega)
    have av := cw_ha_at hA hv htv (p := j) (by omega)
    have aw := cw_ha_at hA hw htw (p := j) (by omega)
    unfold wX_difference_24 wY_difference_24
    rw [cw_ix1, cw_ix1, cw_ix2, cw_ix2, cw_cl (n := 64 * v + j) (by omega), cw_cl (n := 64 * w + j) (by omega), bv, bw, av, aw, cw_eq (by omega) (by omega), nI_eq (by omega) (by omega)]
    by_cases e : g (64 * v + j) = g (64 * w + j)
    · obtain ⟨r, hX, hY⟩ := ih (j + 1) c (by omega)
      exact ⟨r, fun P hP => br_f h ⟨iv, iw, br_t e (nm_r (nI_1 j) (hX P hP))⟩, fun P hP => br_f h ⟨iv, iw, br_t e (nm_r (nI_1 j) (hY P hP))⟩⟩
    · by_cases ek : c = q
      · exact ⟨nI j, fun P hP => br_f h ⟨iv, iw, br_f e (br_t ek hP)⟩, fun P hP => br_f h ⟨iv, iw, br_f e (br_t ek hP)⟩⟩
      · obtain ⟨r, hX, hY⟩ := ih (j + 1) (c + 1) (by omega)
        exact ⟨r, fun P hP => br_f h ⟨iv, iw, br_f e (br_f ek (nm_e (nm_r (nI_1 j) (hX P hP))))⟩, fun P hP => br_f h ⟨iv, iw, br_f e (br_f ek (nm_e (nm_r (nI_1 j) (hY P hP))))⟩⟩
theorem i_vc_difference {k : Nat} {u : SX} {v : SY} (I : i_Rel k u v) (hk : k + 6 ≤ 3072) (v1 : Int32) (v2 : Int32) (v3 : Int32) : wpX_difference (fun r => wpY_difference (fun r' => r' = r ∧ i_Rel (k + 6) u v) v v1 v2 v3) u v1 v2 v3 := by
  obtain ⟨g, s, h, l, th, wr, bk, hc, va, go, lo, sp, sv, sh, sd, fr, ha, be, ba, sV, he, rfl, rfl, hs, hh, hl, hW, hB, hH, hA, hG, hL, hS, hV⟩ := I
  unfold wpX_difference wpY_difference
  dsimp only
  by_cases h1 : cw_is th v1
  · obtain ⟨a, ha6, rfl, hta⟩ := h1
    refine cx_is_t ha6 hta (br_f (by decide) ?_)
    by_cases h2 : cw_is th v2
    · obtain ⟨b, hb6, rfl, htb⟩ := h2
      obtain ⟨r, hX, hY⟩ := cj_diffe2 (fs := nI s) (fh := nI h) (fl := nI l) (th := th) (wr := wr) (bk := bk) (hc := hc) (va := va) (go := go) (lo := lo) (sp := sp) (sv := sv) (sh := sh) (sd := sd) (fr := fr) (ha := ha) (be := be) (ba := ba) (sV := sV) (he := he) (q := v3) ha6 hta hb6 htb hB hA 64 0 0 rfl
      exact cx_is_t hb6 htb (br_f (by decide) ⟨65, hX _ (cy_is_t ha6 hta (br_f (by decide) (cy_is_t hb6 htb (br_f (by decide) ⟨65, hY _ ⟨rfl, cw_mk ⟨hs, hh, hl, hW, hB, hH, hA, hG, hL, hS, hV⟩⟩⟩))))⟩)
    · exact cx_is_f h2 (br_t rfl (cy_is_t ha6 hta (br_f (by decide) (cy_is_f h2 (br_t rfl ⟨rfl, cw_mk ⟨hs, hh, hl, hW, hB, hH, hA, hG, hL, hS, hV⟩⟩)))))
  · exact cx_is_f h1 (br_t rfl (cy_is_f h1 (br_t rfl ⟨rfl, cw_mk ⟨hs, hh, hl, hW, hB, hH, hA, hG, hL, hS, hV⟩⟩)))
theorem i_vc_entry {k : Nat} {u : SX} {v : SY} (I : i_Rel k u v) (hk : k + 6 ≤ 3072) (v1 : Int32) : wpX_entry (fun r => wpY_entry (fun r' => r' = r ∧ i_Rel (k + 6) u v) v v1) u v1 := by
  obtain ⟨g, s, h, l, th, wr, bk, hc, va, go, lo, sp, sv, sh, sd, fr, ha, be, ba, sV, he, rfl, rfl, hs, hh, hl, hW, hB, hH, hA, hG, hL, hS, hV⟩ := I
  unfold wpX_entry wpY_entry
  dsimp only
  by_cases h1 : cw_lt l v1
  · obtain ⟨j, hj, rfl⟩ := h1
    have hi : vp_in (nI j) 64 := cw_in (by omega) (by decide)
    refine br_f (nI_pos (by omega)) (br_t (nI_lt hj (by omega)) ⟨hi, ?_⟩)
    rw [cw_cl (n := j) (by omega)]
    refine br_c (fun z => ⟨hi, cy_out_t hj (by omega) (br_t rfl ⟨hi, br_t z ⟨hi, rfl, cw_mk ⟨hs, hh, hl, hW, hB, hH, hA, hG, hL, hS, hV⟩⟩⟩)⟩) (fun z => ⟨hi, hi, cy_out_t hj (by omega) (br_t rfl ⟨hi, br_f z ⟨hi, hi, ?_, cw_mk ⟨hs, hh, hl, hW, hB, hH, hA, hG, hL, hS, hV⟩⟩⟩)⟩)
    rw [hV j z]
  · have hY : wpY_out (fun r_1 => (r_1 = 0 → vp_in v1 64 ∧ ((sh v1.toNatClampNeg = 0 → vp_in v1 64 ∧ 1000000000000 + (sp v1.toNatClampNeg).toInt64 = 1000000000101 ∧ i_Rel (k + 6) (nI s, nI h, nI l, th, wr, bk, hc, va, go, lo, sp, sv, sh, sd) (nI s, nI h, nI l, th, fr, ha, be, va, ba, lo, sV, he, sp, sh)) ∧ (¬ sh v1.toNatClampNeg = 0 → vp_in v1 64 ∧ vp_in v1 64 ∧ (sp v1.toNatClampNeg).toInt64 + 64 * (sV v1.toNatClampNeg).toInt64 = 1000000000101 ∧ i_Rel (k + 6) (nI s, nI h, nI l, th, wr, bk, hc, va, go, lo, sp, sv, sh, sd) (nI s, nI h, nI l, th, fr, ha, be, va, ba, lo, sV, he, sp, sh)))) ∧ (¬ r_1 = 0 → 1000000000101 = (1000000000101 : Int64) ∧ i_Rel (k + 6) (nI s, nI h, nI l, th, wr, bk, hc, va, go, lo, sp, sv, sh, sd) (nI s, nI h, nI l, th, fr, ha, be, va, ba, lo, sV, he, sp, sh))) v1 (nI l) :=
      cy_out_f h1 (by omega) (br_f (by decide) ⟨rfl, cw_mk ⟨hs, hh, hl, hW, hB, hH, hA, hG, hL, hS, hV⟩⟩)
    rcases pk_ix v1 (n := l) (by omega) with h2 | h2 | h2
    · exact br_t h2 hY
    · exact br_c (fun _ => hY) (fun _ => br_f (Int32.not_lt.mpr h2) hY)
    · exact absurd h2 h1
end
