section
variable {fs fh fl : Int32} {th wr bk hc va go lo sp sv sh sd fr ha be ba sV he : Nat → Int32}
theorem cw_HA_up {g : Nat → Nat} {v p e : Nat} (ht : ¬ th v = 0) (hp : p < 64) (hA : cw_HA th g ha) : cw_HA th (cw_up g (64 * v + p) e) (upd ha (64 * v + p) (nI e)) := by
  intro x hx
  by_cases q : x = 64 * v + p
  · rw [q, cw_up_s, pk_us, show (64 * v + p) / 64 = v by omega]
    exact ⟨fun z => absurd z ht, fun _ => rfl⟩
  · rw [cw_up_n q, pk_un q]
    exact hA x hx
theorem cx_w27s {P : Int32 → SX → Prop} {v p b d i n : Nat} (hb : b < 80) (hd : d < 2) (hi : 80 * d + b = i) (h : wX_writeValue_27 P (nI v) (nI p) (nI b) fs fh fl n (nI (d + 1)) th wr bk hc va (upd go i (if lo d = 0 then 1 else 0)) lo sp sv sh sd) : wX_writeValue_27 P (nI v) (nI p) (nI b) fs fh fl (n + 1) (nI d) th wr bk hc va go lo sp sv sh sd := by
  unfold wX_writeValue_27
  rw [cw_ix3, hi, cw_cl (n := i) (by omega), cw_cl (n := d) (by omega), cw_b0, cw_b1]
  refine br_f (nI_ge (b := 2) hd (by decide)) ⟨cw_in hd (by decide), ?_⟩
  by_cases hl : lo d = 0
  · rw [if_pos hl] at h
    exact br_t hl ⟨cw_in (by omega) (by decide), nm_e (nm_r (nI_1 d) h)⟩
  · rw [if_neg hl] at h
    exact br_f hl ⟨cw_in (by omega) (by decide), nm_e (nm_r (nI_1 d) h)⟩
theorem cw_G_lo {a : Int32} (h : a = 0 ∨ a = 1) : cw_G (if a = 0 then 1 else 0) a := by
  rcases h with h | h <;> subst h
  · exact Or.inr ⟨rfl, rfl⟩
  · exact Or.inl ⟨rfl, rfl⟩
theorem cw_RG_wr {g : Nat → Nat} {x b : Nat} (hx : x < 384) (hb : b < 80) (hL : ∀ d, d < 2 → lo d = 0 ∨ lo d = 1) (hR : cw_RG g go ba) : cw_RG (cw_up g x (b + 1)) (upd (upd go b (if lo 0 = 0 then 1 else 0)) (80 + b) (if lo 1 = 0 then 1 else 0)) (upd (upd ba b (lo 0)) (80 + b) (lo 1)) := by
  intro c hc hu
  by_cases e : c = b
  · subst e
    rw [pk_us, pk_us, pk_un (show c ≠ 80 + c by omega), pk_un (show c ≠ 80 + c by omega), pk_us, pk_us]
    exact ⟨cw_G_lo (hL 0 (by decide)), cw_G_lo (hL 1 (by decide))⟩
  · have key := cw_C_up (g := g) (e := b + 1) hx (c + 1)
    rw [if_neg (show ¬ b + 1 = c + 1 by omega)] at key
    rw [pk_un (show c ≠ 80 + b by omega), pk_un (show c ≠ 80 + b by omega), pk_un e, pk_un e, pk_un (show 80 + c ≠ 80 + b by omega), pk_un (show 80 + c ≠ 80 + b by omega), pk_un (show 80 + c ≠ b by omega), pk_un (show 80 + c ≠ b by omega)]
    exact hR c hc (by omega)
theorem cj_write {g : Nat → Nat} {v p : Nat} {x : Int32} (hv : v < 6) (ht : ¬ th v = 0) (hw : fr v = 0) (hp : p < 64) (hB : cw_BK g bk) (hH : cw_HC g hc) (hA : cw_HA th g ha) (hR : cw_RG g go ba) (hL : ∀ d, d < 2 → lo d = 0 ∨ lo d = 1) :
    ∃ (r : Int32) (g' : Nat → Nat) (bk' hc' va' go' ha' ba' he' : Nat → Int32), cw_BK g' bk' ∧ cw_HC g' hc' ∧ cw_HA th g' ha' ∧ cw_RG g' go' ba' ∧
      (∀ P : Int32 → SX → Prop, P r (fs, fh, fl, th, wr, bk', hc', va', go', lo, sp, sv, sh, sd) → wpX_writeValue P (fs, fh, fl, th, wr, bk, hc, va, go, lo, sp, sv, sh, sd) (nI v) (nI p) x) ∧
      (∀ P : Int32 → SY → Prop, P r (fs, fh, fl, th, fr, ha', be, va', ba', lo, sV, he', sp, sh) → wpY_write P (fs, fh, fl, th, fr, ha, be, va, ba, lo, sV, he, sp, sh) (nI v) (nI p) x) := by
  have hx : 64 * v + p < 384 := by omega
  obtain ⟨he', hE, hT⟩ := cy_tally (fs := fs) (fh := fh) (fl := fl) (fr := fr) (be := be) (va := va) (ba := ba) (lo := lo) (sV := sV) (he := he) (sp := sp) (sh := sh) hA (cw_g80 hB)
  rcases cj_free2 (fs := fs) (fh := fh) (fl := fl) (th := th) (wr := wr) (bk := bk) (va := va) (go := go) (lo := lo) (sp := sp) (sv := sv) (sh := sh) (sd := sd) (fr := fr) (ha := ha) (be := be) (ba := ba) (sV := sV) hH hE 80 0 rfl with ⟨b, hb, hc0, hX, hY⟩ | ⟨hX, hY⟩
  · obtain ⟨bk', hc', hB', hH', hput⟩ := cx_put (fs := fs) (fh := fh) (fl := fl) (th := th) (wr := wr) (va := upd va b x) (go := upd (upd go b (if lo 0 = 0 then 1 else 0)) (80 + b) (if lo 1 = 0 then 1 else 0)) (lo := lo) (sp := sp) (sv := sv) (sh := sh) (sd := sd) (e := b + 1) hv hp (by omega) hB hH
    rw [cw_p1] at hput
    refine ⟨nI b, cw_up g (64 * v + p) (b + 1), bk', hc', upd va b x, _, upd ha (64 * v + p) (nI (b + 1)), _, he', hB', hH', cw_HA_up ht hp hA, cw_RG_wr hx hb hL hR, fun P hP => ?_, fun P hP => ?_⟩
    · unfold wpX_writeValue wpX_leastFreeBlock
      dsimp only
      refine ⟨81, hX _ (br_f (cw_en2 _ (by omega)) ⟨cw_in hb (by decide), ?_⟩)⟩
      rw [cw_cl (n := b) (by omega)]
      refine nm_e ⟨3, cx_w27s (d := 0) hb (by decide) (show 80 * 0 + b = b by omega) (cx_w27s (d := 1) hb (by decide) (show 80 * 1 + b = 80 + b by omega) (br_t (show (2 : Int32) ≤ nI 2 by decide) (hput _ hP)))⟩
    · unfold wpY_write wpY_free
      dsimp only
      refine cy_wr_t hv ht hw (br_f (by decide) (cy_out_t (n := 64) hp (by decide) (br_t rfl (hT _ ⟨81, hY _ (br_t (nI_pos' (by omega)) ?_)⟩))))
      dsimp only
      rw [cw_ix2, cw_ix5, cw_cl (n := b) (by omega), cw_cl (n := 80 + b) (by omega), cw_cl (n := 64 * v + p) (by omega), nI_1, cw_by2 (by omega), cw_b01 (hL 0 (by decide)), cw_b01 (hL 1 (by decide))]
      exact ⟨cw_in hb (by decide), nm_e ⟨cw_in (by omega) (by decide), nm_e ⟨cw_in (by omega) (by decide), nm_e ⟨cw_in hx (by decide), nm_e hP⟩⟩⟩⟩
  · refine ⟨-2, g, bk, hc, va, go, ha, ba, he', hB, hH, hA, hR, fun P hP => ?_, fun P hP => ?_⟩
    · unfold wpX_writeValue wpX_leastFreeBlock
      dsimp only
      exact ⟨81, hX _ (br_t rfl hP)⟩
    · unfold wpY_write wpY_free
      dsimp only
      exact cy_wr_t hv ht hw (br_f (by decide) (cy_out_t (n := 64) hp (by decide) (br_t rfl (hT _ ⟨81, hY _ (br_f (by decide) hP)⟩))))
theorem cw_RG_pu {g : Nat → Nat} {x : Nat} (hx : x < 384) (hR : cw_RG g go ba) : cw_RG (cw_up g x 0) go ba := cw_RG_sub hR (fun b hb hu => by
  have key := cw_C_up (g := g) (e := 0) hx (b + 1)
  rw [if_neg (show ¬ 0 = b + 1 by omega)] at key
  omega)
theorem cj_punch {g : Nat → Nat} {v p : Nat} (hv : v < 6) (ht : ¬ th v = 0) (hw : fr v = 0) (hp : p < 64) (hB : cw_BK g bk) (hH : cw_HC g hc) (hA : cw_HA th g ha) (hR : cw_RG g go ba) :
    ∃ (r : Nat) (g' : Nat → Nat) (bk' hc' ha' he' : Nat → Int32), r < 2 ∧ cw_BK g' bk' ∧ cw_HC g' hc' ∧ cw_HA th g' ha' ∧ cw_RG g' go ba ∧
      (∀ P : Int32 → SX → Prop, P (nI r) (fs, fh, fl, th, wr, bk', hc', va, go, lo, sp, sv, sh, sd) → wpX_putBlock P (fs, fh, fl, th, wr, bk, hc, va, go, lo, sp, sv, sh, sd) (nI v) (nI p) (-1)) ∧
      (∀ P : Int32 → SY → Prop, P (nI r) (fs, fh, fl, th, fr, ha', be, va, ba, lo, sV, he', sp, sh) → wpY_punch P (fs, fh, fl, th, fr, ha, be, va, ba, lo, sV, he, sp, sh) (nI v) (nI p)) := by
  have hx : 64 * v + p < 384 := by omega
  obtain ⟨bk', hc', hB', hH', hX⟩ := cx_punch (fs := fs) (fh := fh) (fl := fl) (th := th) (wr := wr) (va := va) (go := go) (lo := lo) (sp := sp) (sv := sv) (sh := sh) (sd := sd) hv hp hB hH
  have hA' := cw_HA_up (e := 0) ht hp hA
  obtain ⟨he', hE, hT⟩ := cy_tally (fs := fs) (fh := fh) (fl := fl) (fr := fr) (be := be) (va := va) (ba := ba) (lo := lo) (sV := sV) (he := he) (sp := sp) (sh := sh) hA' (cw_g80 hB')
  have hr2 : cw_pr g (64 * v + p) 0 < 2 := by unfold cw_pr; split <;> omega
  refine ⟨cw_pr g (64 * v + p) 0, cw_up g (64 * v + p) 0, bk', hc', _, he', hr2, hB', hH', hA', cw_RG_pu hx hR, hX, fun P hP => ?_⟩
  have eA := cw_ha_at hA hv ht hp
  have g80 := (hB _ hx).1
  have hl := cw_C_le (cw_up g (64 * v + p) 0) (g (64 * v + p))
  unfold wpY_punch
  dsimp only
  rw [cw_ix2, cw_cl (n := 64 * v + p) (by omega), eA, cw_by0]
  refine cy_wr_t hv ht hw (br_f (by decide) (cy_out_t (n := 64) hp (by decide) (br_t rfl ⟨cw_in hx (by decide), nm_e ⟨cw_in hx (by decide), nm_e (hT _ ?_)⟩⟩)))
  dsimp only
  rw [cw_e1 _ (by omega), cw_q1, cw_cl (n := g (64 * v + p)) (by omega)]
  unfold cw_pr at hP
  by_cases h0 : g (64 * v + p) = 0
  · rw [if_neg (fun z => z.1 h0)] at hP
    exact br_t h0 hP
  · have hE' := hE (g (64 * v + p) - 1) (by omega)
    rw [show g (64 * v + p) - 1 + 1 = g (64 * v + p) by omega] at hE'
    rw [hE', cw_z0 (by omega)]
    refine br_f h0 ⟨cw_in (by omega) (by decide), ?_⟩
    by_cases hz : cw_C (cw_up g (64 * v + p) 0) (g (64 * v + p)) = 0
    · rw [if_pos ⟨h0, hz⟩] at hP
      exact br_t hz hP
    · rw [if_neg (fun z => hz z.2)] at hP
      exact br_f hz hP
theorem i_vc_write {k : Nat} {u : SX} {v : SY} (I : i_Rel k u v) (hk : k + 6 ≤ 3072) (v1 : Int32) (v2 : Int32) (v3 : Int32) : wpX_write (fun r u' => wpY_write (fun r' v' => r' = r ∧ i_Rel (k + 6) u' v') v v1 v2 v3) u v1 v2 v3 := by
  obtain ⟨g, s, h, l, th, wr, bk, hc, va, go, lo, sp, sv, sh, sd, fr, ha, be, ba, sV, he, rfl, rfl, hs, hh, hl, hW, hB, hH, hA, hG, hL, hS, hV⟩ := I
  unfold wpX_write
  dsimp only
  by_cases h1 : cw_wr th wr v1
  · obtain ⟨a, ha6, rfl, hta, hwa⟩ := h1
    have hfa : fr a = 0 := Classical.byContradiction fun z => hwa ((hW a ha6 hta).mpr z)
    by_cases h2 : cw_lt 64 v2
    · obtain ⟨p, hp, rfl⟩ := h2
      obtain ⟨r, g', bk', hc', va', go', ha', ba', he', hB', hH', hA', hR', hX, hY⟩ := cj_write (fs := nI s) (fh := nI h) (fl := nI l) (wr := wr) (va := va) (sp := sp) (sv := sv) (sh := sh) (sd := sd) (be := be) (sV := sV) (he := he) (x := v3) ha6 hta hfa hp hB hH hA hG hL
      exact cx_wr_t ha6 hta hwa (br_f (by decide) (cx_place_t hp (br_f (by decide) (hX _ (hY _ ⟨rfl, cw_mk ⟨hs, hh, hl, hW, hB', hH', hA', hR', hL, hS, hV⟩⟩)))))
    · refine cx_wr_t ha6 hta hwa (br_f (by decide) (cx_place_f h2 (br_t rfl ?_)))
      unfold wpY_write
      dsimp only
      exact cy_wr_t ha6 hta hfa (br_f (by decide) (cy_out_f (n := 64) h2 (by decide) (br_f (by decide) ⟨rfl, cw_mk ⟨hs, hh, hl, hW, hB, hH, hA, hG, hL, hS, hV⟩⟩)))
  · refine cx_wr_f h1 (br_t rfl ?_)
    unfold wpY_write
    dsimp only
    exact cy_wr_f (fun z => h1 ((cw_wrf hW v1).mpr z)) (br_t rfl ⟨rfl, cw_mk ⟨hs, hh, hl, hW, hB, hH, hA, hG, hL, hS, hV⟩⟩)
theorem i_vc_punch {k : Nat} {u : SX} {v : SY} (I : i_Rel k u v) (hk : k + 6 ≤ 3072) (v1 : Int32) (v2 : Int32) : wpX_punch (fun r u' => wpY_punch (fun r' v' => r' = r ∧ i_Rel (k + 6) u' v') v v1 v2) u v1 v2 := by
  obtain ⟨g, s, h, l, th, wr, bk, hc, va, go, lo, sp, sv, sh, sd, fr, ha, be, ba, sV, he, rfl, rfl, hs, hh, hl, hW, hB, hH, hA, hG, hL, hS, hV⟩ := I
  unfold wpX_punch
  dsimp only
  by_cases h1 : cw_wr th wr v1
  · obtain ⟨a, ha6, rfl, hta, hwa⟩ := h1
    have hfa : fr a = 0 := Classical.byContradiction fun z => hwa ((hW a ha6 hta).mpr z)
    by_cases h2 : cw_lt 64 v2
    · obtain ⟨p, hp, rfl⟩ := h2
      obtain ⟨r, g', bk', hc', ha', he', _, hB', hH', hA', hR', hX, hY⟩ := cj_punch (fs := nI s) (fh := nI h) (fl := nI l) (wr := wr) (va := va) (lo := lo) (sp := sp) (sv := sv) (sh := sh) (sd := sd) (be := be) (sV := sV) (he := he) ha6 hta hfa hp hB hH hA hG
      exact cx_wr_t ha6 hta hwa (br_f (by decide) (cx_place_t hp (br_f (by decide) (hX _ (hY _ ⟨rfl, cw_mk ⟨hs, hh, hl, hW, hB', hH', hA', hR', hL, hS, hV⟩⟩)))))
    · refine cx_wr_t ha6 hta hwa (br_f (by decide) (cx_place_f h2 (br_t rfl ?_)))
      unfold wpY_punch
      dsimp only
      exact cy_wr_t ha6 hta hfa (br_f (by decide) (cy_out_f (n := 64) h2 (by decide) (br_f (by decide) ⟨rfl, cw_mk ⟨hs, hh, hl, hW, hB, hH, hA, hG, hL, hS, hV⟩⟩)))
  · refine cx_wr_f h1 (br_t rfl ?_)
    unfold wpY_punch
    dsimp only
    exact cy_wr_f (fun z => h1 ((cw_wrf hW v1).mpr z)) (br_t rfl ⟨rfl, cw_mk ⟨hs, hh, hl, hW, hB, hH, hA, hG, hL, hS, hV⟩⟩)
theorem cj_rec12 {v l : Nat} (hv : v < 6) (ht : ¬ th v = 0) (hw : fr v = 0) (hl : l ≤ 64) (hL : ∀ d, d < 2 → lo d = 0 ∨ lo d = 1) (hS : ∀ k, ∃ p, p < 64 ∧ sp k = nI p) (hV : ∀ k, ¬ sh k = 0 → sv k = sV k) : ∀ (d j : Nat) (g : Nat → Nat) (bk hc va go ha ba he : Nat → Int32), j + d = l → cw_BK g bk → cw_HC g hc → cw_HA th g ha → cw_RG g go ba →
    ∃ (r : Int32) (g' : Nat → Nat) (bk' hc' va' go' ha' ba' he' : Nat → Int32), cw_BK g' bk' ∧ cw_HC g' hc' ∧ cw_HA th g' ha' ∧ cw_RG g' go' ba' ∧
      (∀ P : Int32 → SX → Prop, P r (fs, fh, nI l, th, wr, bk', hc', va', go', lo, sp, sv, sh, sd) → wX_receive_12 P (nI v) (d + 1) (nI j) fs fh (nI l) th wr bk hc va go lo sp sv sh sd) ∧
      (∀ P : Int32 → SY → Prop, P r (fs, fh, nI l, th, fr, ha', be, va', ba', lo, sV, he', sp, sh) → wY_receive_12 P (nI v) (d + 1) (nI j) fs fh (nI l) th fr ha be va ba lo sV he sp sh) := by
  intro d
  induction d with
  | zero =>
    intro j g bk hc va go ha ba he hj hB hH hA hR
    obtain rfl : j = l := by omega
    have hle : nI j ≤ nI j := nI_le (by omega) (by omega)
    exact ⟨nI j, g, bk, hc, va, go, ha, ba, he, hB, hH, hA, hR, fun P hP => br_t hle hP, fun P hP => br_t hle hP⟩
  | succ d ih =>
    intro j g bk hc va go ha ba he hj hB hH hA hR
    have hlt : ¬ nI l ≤ nI j := nI_ge (by omega) (by omega)
    have hi : vp_in (nI j) 64 := cw_in (by omega) (by decide)
    obtain ⟨p, hp, ep⟩ := hS j
    unfold wX_receive_12 wY_receive_12 wY_receive_60
    rw [cw_cl (n := j) (by omega), ep]
    by_cases h0 : sh j = 0
    · obtain ⟨r, g1, bk1, hc1, ha1, he1, hr2, hB1, hH1, hA1, hR1, hX1, hY1⟩ := cj_punch (fs := fs) (fh := fh) (fl := nI l) (wr := wr) (va := va) (lo := lo) (sp := sp) (sv := sv) (sh := sh) (sd := sd) (be := be) (sV := sV) (he := he) hv ht hw hp hB hH hA hR
      obtain ⟨r', g', bk', hc', va', go', ha', ba', he', hB', hH', hA', hR', hX, hY⟩ := ih (j + 1) g1 bk1 hc1 va go ha1 ba he1 (by omega) hB1 hH1 hA1 hR1
      exact ⟨r', g', bk', hc', va', go', ha', ba', he', hB', hH', hA', hR', fun P hP => br_f hlt ⟨hi, br_t h0 ⟨hi, hX1 _ (nm_r (nI_1 j) (hX P hP))⟩⟩, fun P hP => br_f hlt ⟨hi, br_t h0 ⟨hi, hY1 _ (br_f (cw_en2 _ (by omega)) (nm_r (nI_1 j) (hY P hP)))⟩⟩⟩
    · obtain ⟨r, g1, bk1, hc1, va1, go1, ha1, ba1, he1, hB1, hH1, hA1, hR1, hX1, hY1⟩ := cj_write (fs := fs) (fh := fh) (fl := nI l) (wr := wr) (va := va) (sp := sp) (sv := sv) (sh := sh) (sd := sd) (be := be) (sV := sV) (he := he) (x := sv j) hv ht hw hp hB hH hA hR hL
      rw [← hV j h0]
      by_cases hr : r = -2
      · exact ⟨nI j, g1, bk1, hc1, va1, go1, ha1, ba1, he1, hB1, hH1, hA1, hR1, fun P hP => br_f hlt ⟨hi, br_f h0 ⟨hi, hi, hX1 _ (br_t hr hP)⟩⟩, fun P hP => br_f hlt ⟨hi, br_f h0 ⟨hi, hi, hY1 _ (br_t hr hP)⟩⟩⟩
      · obtain ⟨r', g', bk', hc', va', go', ha', ba', he', hB', hH', hA', hR', hX, hY⟩ := ih (j + 1) g1 bk1 hc1 va1 go1 ha1 ba1 he1 (by omega) hB1 hH1 hA1 hR1
        exact ⟨r', g', bk', hc', va', go', ha', ba', he', hB', hH', hA', hR', fun P hP => br_f hlt ⟨hi, br_f h0 ⟨hi, hi, hX1 _ (br_f hr (nm_r (nI_1 j) (hX P hP)))⟩⟩, fun P hP => br_f hlt ⟨hi, br_f h0 ⟨hi, hi, hY1 _ (br_f hr (nm_r (nI_1 j) (hY P hP)))⟩⟩⟩
theorem i_vc_receive {k : Nat} {u : SX} {v : SY} (I : i_Rel k u v) (hk : k + 6 ≤ 3072) (v1 : Int32) : wpX_receive (fun r u' => wpY_receive (fun r' v' => r' = r ∧ i_Rel (k + 6) u' v') v v1) u v1 := by
  obtain ⟨g, s, h, l, th, wr, bk, hc, va, go, lo, sp, sv, sh, sd, fr, ha, be, ba, sV, he, rfl, rfl, hs, hh, hl, hW, hB, hH, hA, hG, hL, hS, hV⟩ := I
  unfold wpX_receive wpY_receive
  dsimp only
  by_cases h1 : cw_wr th wr v1
  · obtain ⟨a, ha6, rfl, hta, hwa⟩ := h1
    have hfa : fr a = 0 := Classical.byContradiction fun z => hwa ((hW a ha6 hta).mpr z)
    obtain ⟨r', g', bk', hc', va', go', ha', ba', he', hB', hH', hA', hR', hX, hY⟩ := cj_rec12 (fs := nI s) (fh := nI h) (wr := wr) (sd := sd) (be := be) ha6 hta hfa hl hL hS hV l 0 g bk hc va go ha ba he (by omega) hB hH hA hG
    exact cx_wr_t ha6 hta hwa (br_f (by decide) ⟨l + 1, hX _ (cy_wr_t ha6 hta hfa (br_f (by decide) ⟨l + 1, hY _ ⟨rfl, cw_mk ⟨hs, hh, hl, hW, hB', hH', hA', hR', hL, hS, hV⟩⟩⟩))⟩)
  · exact cx_wr_f h1 (br_t rfl (cy_wr_f (fun z => h1 ((cw_wrf hW v1).mpr z)) (br_t rfl ⟨rfl, cw_mk ⟨hs, hh, hl, hW, hB, hH, hA, hG, hL, hS, hV⟩⟩)))
end
