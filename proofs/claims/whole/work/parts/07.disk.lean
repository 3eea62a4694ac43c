section
variable {fs fh fl : Int32} {th wr bk hc va go lo sp sv sh sd fr ha be ba sV he : Nat → Int32}
theorem cw_used {g : Nat → Nat} {x b : Nat} (hx : x < 384) (e : g x = b + 1) : 0 < cw_C g (b + 1) := cw_C_pos.mpr ⟨x, hx, e⟩
theorem i_vc_read {k : Nat} {u : SX} {v : SY} (I : i_Rel k u v) (hk : k + 6 ≤ 3072) (v1 : Int32) (v2 : Int32) : wpX_read (fun r u' => wpY_read (fun r' v' => r' = r ∧ i_Rel (k + 6) u' v') v v1 v2) u v1 v2 := by
  obtain ⟨g, s, h, l, th, wr, bk, hc, va, go, lo, sp, sv, sh, sd, fr, ha, be, ba, sV, he, rfl, rfl, hs, hh, hl, hW, hB, hH, hA, hG, hL, hS, hV⟩ := I
  unfold wpX_read
  dsimp only
  by_cases hn : cw_is th v1 ∧ cw_lt 64 v2
  · obtain ⟨⟨a, ha6, rfl, ht⟩, ⟨p, hp, rfl⟩⟩ := hn
    obtain ⟨g80, eB⟩ := hB (64 * a + p) (by omega)
    have eA := cw_ha_at hA ha6 ht hp
    refine cx_boe_t ha6 ht hp ?_
    rw [eB]
    by_cases h0 : g (64 * a + p) = 0
    · rw [h0]
      refine br_t cw_em1 ?_
      unfold wpY_read
      dsimp only
      refine cy_bat_t ha6 ht hp ?_
      rw [eA, h0]
      exact br_f (by decide) ⟨rfl, cw_mk ⟨hs, hh, hl, hW, hB, hH, hA, hG, hL, hS, hV⟩⟩
    · obtain ⟨b, eb⟩ : ∃ b, g (64 * a + p) = b + 1 := ⟨g (64 * a + p) - 1, by omega⟩
      have hb : b < 80 := by omega
      have hu := cw_used (g := g) (x := 64 * a + p) (by omega) eb
      rw [eb, cw_p1]
      obtain ⟨G0, G1⟩ := hG b hb hu
      obtain ⟨r, h', go', ba', y, hh', hn', G0', G1', hy, _, hX, hY⟩ := cj_look (fs := nI s) (fl := nI l) (th := th) (wr := wr) (bk := bk) (hc := hc) (va := va) (go := go) (lo := lo) (sp := sp) (sv := sv) (sh := sh) (sd := sd) (fr := fr) (ha := ha) (be := be) (ba := ba) (sV := sV) (he := he) hb hh G0 G1
      have hR := cw_RG_look hb hG hn' G0' G1'
      have hYY : ∀ z, y = z → wpY_read (fun r' v' => r' = z ∧ i_Rel (k + 6) (nI s, nI h', nI l, th, wr, bk, hc, va, go', lo, sp, sv, sh, sd) v') (nI s, nI h, nI l, th, fr, ha, be, va, ba, lo, sV, he, sp, sh) (nI a) (nI p) := by
        intro z hz
        unfold wpY_read
        dsimp only
        refine cy_bat_t ha6 ht hp ?_
        rw [eA, eb, cw_p1]
        exact br_t (nI_pos' (by omega)) (hY _ ⟨hz, cw_mk ⟨hs, hh', hl, hW, hB, hH, hA, hR, hL, hS, hV⟩⟩)
      refine br_f (cw_en1 _ (by omega)) (hX _ ?_)
      dsimp only
      rcases hy with ⟨y0, y1, e⟩ | ⟨y01, e⟩
      · exact cx_broken_t hb y0 y1 (br_f (by decide) (hYY _ e))
      · refine cx_broken_f hb y01 (br_t rfl ⟨cw_in hb (by decide), hYY _ ?_⟩)
        rw [cw_cl (by omega)]
        exact e
  · refine cx_boe_f hn (br_t rfl ?_)
    unfold wpY_read
    dsimp only
    exact cy_bat_f hn (br_f (by decide) ⟨rfl, cw_mk ⟨hs, hh, hl, hW, hB, hH, hA, hG, hL, hS, hV⟩⟩)
theorem cw_RG_at {g : Nat → Nat} {b d : Nat} (hR : cw_RG g go ba) (hb : b < 80) (hu : 0 < cw_C g (b + 1)) (hd : d < 2) : cw_G (go (80 * d + b)) (ba (80 * d + b)) := by
  obtain ⟨h0, h1⟩ := hR b hb hu
  rcases (show d = 0 ∨ d = 1 by omega) with e | e
  · rw [e, show 80 * 0 + b = b by omega]
    exact h0
  · rw [e, show 80 * 1 + b = 80 + b by omega]
    exact h1
theorem cw_RG_put {g : Nat → Nat} {b d : Nat} {go' ba' : Nat → Int32} (hR : cw_RG g go ba) (hb : b < 80) (hd : d < 2) (hn : ∀ i, i ≠ 80 * d + b → go' i = go i ∧ ba' i = ba i) (hi : cw_G (go' (80 * d + b)) (ba' (80 * d + b))) : cw_RG g go' ba' := by
  intro c hc hu
  obtain ⟨h0, h1⟩ := hR c hc hu
  constructor
  · by_cases e : c = 80 * d + b
    · rw [e]
      exact hi
    · obtain ⟨e1, e2⟩ := hn c e
      rw [e1, e2]
      exact h0
  · by_cases e : 80 + c = 80 * d + b
    · rw [e]
      exact hi
    · obtain ⟨e1, e2⟩ := hn (80 + c) e
      rw [e1, e2]
      exact h1
theorem i_vc_spoil {k : Nat} {u : SX} {v : SY} (I : i_Rel k u v) (hk : k + 6 ≤ 3072) (v1 : Int32) (v2 : Int32) : wpX_spoil (fun r u' => wpY_spoil (fun r' v' => r' = r ∧ i_Rel (k + 6) u' v') v v1 v2) u v1 v2 := by
  obtain ⟨g, s, h, l, th, wr, bk, hc, va, go, lo, sp, sv, sh, sd, fr, ha, be, ba, sV, he, rfl, rfl, hs, hh, hl, hW, hB, hH, hA, hG, hL, hS, hV⟩ := I
  unfold wpX_spoil wpY_spoil
  dsimp only
  obtain ⟨he', hE, hT⟩ := cy_tally (fs := nI s) (fh := nI h) (fl := nI l) (fr := fr) (be := be) (va := va) (ba := ba) (lo := lo) (sV := sV) (he := he) (sp := sp) (sh := sh) hA (cw_g80 hB)
  by_cases h1 : cw_lt 2 v1
  · obtain ⟨d, hd, rfl⟩ := h1
    refine cx_disk_t hd (br_f (by decide) ?_)
    by_cases h2 : cw_lt 80 v2
    · obtain ⟨b, hb, rfl⟩ := h2
      have hl' := cw_C_le g (b + 1)
      have hi : vp_in (nI (80 * d + b)) 160 := cw_in (by omega) (by decide)
      rw [cw_ix3, cw_ix4, cw_cl (n := 80 * d + b) (by omega), nI_1, cw_cl (n := b + 1) (by omega), cw_b0, cw_b1]
      by_cases hu : 0 < cw_C g (b + 1)
      · have hG' := cw_RG_at hG hb hu hd
        refine cx_used_t hb hH hu (br_f (by decide) ⟨hi, nm_e ⟨hi, nm_e ⟨cw_n01 (cw_G_01 hG'), ?_⟩⟩⟩)
        refine cy_out_t (n := 2) hd (by decide) (br_t rfl (cy_out_t (n := 80) hb (by decide) (br_t rfl (hT _ ?_))))
        dsimp only
        rw [hE b hb, cw_z0 (by omega)]
        refine ⟨cw_in (by omega) (by decide), br_f (by omega) ⟨hi, ?_⟩⟩
        rcases hG' with ⟨e1, e2⟩ | ⟨e1, e2⟩
        · rw [e1, e2]
          refine br_f (by decide) ⟨rfl, cw_mk ⟨hs, hh, hl, hW, hB, hH, hA, cw_RG_put hG hb hd (fun i hi => ⟨pk_un hi, rfl⟩) (Or.inl ⟨pk_us, e2⟩), hL, hS, hV⟩⟩
        · rw [e1, e2]
          refine br_t rfl ⟨hi, nm_e ⟨rfl, cw_mk ⟨hs, hh, hl, hW, hB, hH, hA, cw_RG_put hG hb hd (fun i hi => ⟨pk_un hi, pk_un hi⟩) (Or.inl ⟨pk_us, pk_us⟩), hL, hS, hV⟩⟩⟩
      · refine cx_used_z hb hH hu (br_t rfl ?_)
        refine cy_out_t (n := 2) hd (by decide) (br_t rfl (cy_out_t (n := 80) hb (by decide) (br_t rfl (hT _ ?_))))
        dsimp only
        rw [hE b hb, cw_z0 (by omega)]
        exact ⟨cw_in (by omega) (by decide), br_t (by omega) ⟨rfl, cw_mk ⟨hs, hh, hl, hW, hB, hH, hA, hG, hL, hS, hV⟩⟩⟩
    · exact cx_used_f h2 (br_t rfl (cy_out_t (n := 2) hd (by decide) (br_t rfl (cy_out_f (n := 80) h2 (by decide) (br_f (by decide) ⟨rfl, cw_mk ⟨hs, hh, hl, hW, hB, hH, hA, hG, hL, hS, hV⟩⟩)))))
  · exact cx_disk_f h1 (br_t rfl (cy_out_f (n := 2) h1 (by decide) (br_f (by decide) ⟨rfl, cw_mk ⟨hs, hh, hl, hW, hB, hH, hA, hG, hL, hS, hV⟩⟩)))
theorem cw_L_up {d : Nat} {a : Int32} (hL : ∀ d, d < 2 → lo d = 0 ∨ lo d = 1) (ha : a = 0 ∨ a = 1) : ∀ e, e < 2 → upd lo d a e = 0 ∨ upd lo d a e = 1 := by
  intro e he
  by_cases q : e = d
  · rw [q, pk_us]
    exact ha
  · rw [pk_un q]
    exact hL e he
theorem i_vc_replace {k : Nat} {u : SX} {v : SY} (I : i_Rel k u v) (hk : k + 6 ≤ 3072) (v1 : Int32) : wpX_replace (fun r u' => wpY_replace (fun r' v' => r' = r ∧ i_Rel (k + 6) u' v') v v1) u v1 := by
  obtain ⟨g, s, h, l, th, wr, bk, hc, va, go, lo, sp, sv, sh, sd, fr, ha, be, ba, sV, he, rfl, rfl, hs, hh, hl, hW, hB, hH, hA, hG, hL, hS, hV⟩ := I
  unfold wpX_replace wpY_replace
  dsimp only
  by_cases h1 : cw_lt 2 v1
  · obtain ⟨d, hd, rfl⟩ := h1
    have hi : vp_in (nI d) 2 := cw_in hd (by decide)
    rw [cw_cl (n := d) (by omega), cw_b0]
    refine cx_disk_t hd (br_f (by decide) ⟨hi, br_c (fun z => cy_out_t (n := 2) hd (by decide) (br_t rfl ⟨hi, br_t z ⟨rfl, cw_mk ⟨hs, hh, hl, hW, hB, hH, hA, hG, hL, hS, hV⟩⟩⟩)) (fun z => ⟨hi, nm_e (cy_out_t (n := 2) hd (by decide) (br_t rfl ⟨hi, br_f z ⟨hi, nm_e ⟨rfl, ?_⟩⟩⟩))⟩)⟩)
    exact cw_mk ⟨hs, hh, hl, hW, hB, hH, hA, hG, cw_L_up hL (Or.inl rfl), hS, hV⟩
  · exact cx_disk_f h1 (br_t rfl (cy_out_f (n := 2) h1 (by decide) (br_f (by decide) ⟨rfl, cw_mk ⟨hs, hh, hl, hW, hB, hH, hA, hG, hL, hS, hV⟩⟩)))
/-! lose: what stands below j is done, what stands from j on is as it was -/
theorem cj_lose2 {g : Nat → Nat} {q : Nat} (hq : q < 2) (hH : cw_HC g hc) (hE : cw_HE g he) : ∀ (d j : Nat) (c : Int32) (go ba : Nat → Int32), j + d = 80 → cw_RG g go ba →
    ∃ (r : Int32) (go' ba' : Nat → Int32), cw_RG g go' ba' ∧ (∀ P : Int32 → SX → Prop, P r (fs, fh, fl, th, wr, bk, hc, va, go', lo, sp, sv, sh, sd) → wX_lose_29 P (nI q) fs fh fl (d + 1) c (nI j) th wr bk hc va go lo sp sv sh sd) ∧ (∀ P : Int32 → SY → Prop, P r (fs, fh, fl, th, fr, ha, be, va, ba', lo, sV, he, sp, sh) → wY_lose_34 P (nI q) fs fh fl (d + 1) c (nI j) th fr ha be va ba lo sV he sp sh) := by
  intro d
  induction d with
  | zero =>
    intro j c go ba hj hR
    obtain rfl : j = 80 := by omega
    have h : (80 : Int32) ≤ nI 80 := by decide
    exact ⟨c, go, ba, hR, fun P hP => br_t h hP, fun P hP => br_t h hP⟩
  | succ d ih =>
    intro j c go ba hj hR
    have h : ¬ (80 : Int32) ≤ nI j := nI_ge (b := 80) (by omega) (by decide)
    have hl := cw_C_le g (j + 1)
    have hi : vp_in (nI (80 * q + j)) 160 := cw_in (by omega) (by decide)
    have hi1 : vp_in (nI (j + 1)) 81 := cw_in (by omega) (by decide)
    unfold wX_lose_29 wY_lose_34 wY_lose_68
    rw [cw_ix3, cw_ix4, cw_cl (n := 80 * q + j) (by omega), nI_1 j, cw_cl (n := j + 1) (by omega), hE j (by omega), cw_zl (by omega), cw_b0, cw_b1]
    by_cases hu : 0 < cw_C g (j + 1)
    · rcases cw_RG_at hR (by omega) hu hq with ⟨e1, e2⟩ | ⟨e1, e2⟩
      · obtain ⟨r, go', ba', hR', hX, hY⟩ := ih (j + 1) c go (upd ba (80 * q + j) 1) (by omega) (cw_RG_put hR (by omega) hq (fun i hi => ⟨rfl, pk_un hi⟩) (Or.inl ⟨e1, pk_us⟩))
        refine ⟨r, go', ba', hR', fun P hP => br_f h (cx_used_t (by omega) hH hu (br_f (by decide) ⟨hi, br_t e1 (nm_e (hX P hP))⟩)), fun P hP => br_f h ⟨hi1, br_f (by omega) ⟨hi, br_f (by rw [e2]; decide) ⟨hi, nm_e (nm_e (hY P hP))⟩⟩⟩⟩
      · obtain ⟨r, go', ba', hR', hX, hY⟩ := ih (j + 1) (c + 1) (upd go (80 * q + j) 0) (upd ba (80 * q + j) 1) (by omega) (cw_RG_put hR (by omega) hq (fun i hi => ⟨pk_un hi, pk_un hi⟩) (Or.inl ⟨pk_us, pk_us⟩))
        refine ⟨r, go', ba', hR', fun P hP => br_f h (cx_used_t (by omega) hH hu (br_f (by decide) ⟨hi, br_f (by rw [e1]; decide) ⟨hi, nm_e (nm_e (nm_e (hX P hP)))⟩⟩)), fun P hP => br_f h ⟨hi1, br_f (by omega) ⟨hi, br_t e2 (nm_e ⟨hi, nm_e (nm_e (hY P hP))⟩)⟩⟩⟩
    · have hR2 : cw_RG g go (upd ba (80 * q + j) 1) := by
        intro b hb hub
        have hbj : b ≠ j := fun e => hu (e ▸ hub)
        rw [pk_un (show b ≠ 80 * q + j by omega), pk_un (show 80 + b ≠ 80 * q + j by omega)]
        exact hR b hb hub
      obtain ⟨r, go', ba', hR', hX, hY⟩ := ih (j + 1) c go (upd ba (80 * q + j) 1) (by omega) hR2
      exact ⟨r, go', ba', hR', fun P hP => br_f h (cx_used_z (by omega) hH hu (br_t rfl (nm_e (hX P hP)))), fun P hP => br_f h ⟨hi1, br_t (by omega) ⟨hi, nm_e (nm_e (hY P hP))⟩⟩⟩
theorem i_vc_lose {k : Nat} {u : SX} {v : SY} (I : i_Rel k u v) (hk : k + 6 ≤ 3072) (v1 : Int32) : wpX_lose (fun r u' => wpY_lose (fun r' v' => r' = r ∧ i_Rel (k + 6) u' v') v v1) u v1 := by
  obtain ⟨g, s, h, l, th, wr, bk, hc, va, go, lo, sp, sv, sh, sd, fr, ha, be, ba, sV, he, rfl, rfl, hs, hh, hl, hW, hB, hH, hA, hG, hL, hS, hV⟩ := I
  unfold wpX_lose wpY_lose
  dsimp only
  by_cases h1 : cw_lt 2 v1
  · obtain ⟨d, hd, rfl⟩ := h1
    have hi : vp_in (nI d) 2 := cw_in hd (by decide)
    rw [cw_cl (n := d) (by omega), cw_b1]
    obtain ⟨he', hE, hT⟩ := cy_tally (fs := nI s) (fh := nI h) (fl := nI l) (fr := fr) (be := be) (va := va) (ba := ba) (lo := upd lo d 1) (sV := sV) (he := he) (sp := sp) (sh := sh) hA (cw_g80 hB)
    obtain ⟨r, go', ba', hR', hX, hY⟩ := cj_lose2 (fs := nI s) (fh := nI h) (fl := nI l) (th := th) (wr := wr) (bk := bk) (va := va) (lo := upd lo d 1) (sp := sp) (sv := sv) (sh := sh) (sd := sd) (fr := fr) (ha := ha) (be := be) (sV := sV) hd hH hE 80 0 0 go ba rfl hG
    refine cx_disk_t hd (br_f (by decide) ⟨hi, br_c (fun z => ⟨hi, nm_e ⟨81, hX _ (cy_out_t (n := 2) hd (by decide) (br_t rfl ⟨hi, br_t z ⟨hi, nm_e (hT _ ⟨81, hY _ ⟨rfl, ?_⟩⟩)⟩⟩))⟩⟩) (fun z => cy_out_t (n := 2) hd (by decide) (br_t rfl ⟨hi, br_f z ⟨rfl, cw_mk ⟨hs, hh, hl, hW, hB, hH, hA, hG, hL, hS, hV⟩⟩⟩))⟩)
    exact cw_mk ⟨hs, hh, hl, hW, hB, hH, hA, hR', cw_L_up hL (Or.inr rfl), hS, hV⟩
  · exact cx_disk_f h1 (br_t rfl (cy_out_f (n := 2) h1 (by decide) (br_f (by decide) ⟨rfl, cw_mk ⟨hs, hh, hl, hW, hB, hH, hA, hG, hL, hS, hV⟩⟩)))
end
