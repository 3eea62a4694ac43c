section
variable {fs fh fl : Int32} {th wr bk hc va go lo sp sv sh sd fr ha be ba sV he : Nat → Int32}
theorem cw_mod80 {s : Nat} (hs : s < 80) : (nI s + 1) - (nI s + 1) / 80 * 80 = nI ((s + 1) % 80) := by
  rw [nI_1]
  exact pk_rem (a := s + 1) (d := 80) (by omega) (by decide) (by decide)
theorem cy_s120 {P : Int32 → SY → Prop} {J : Int32 → Int32 → Int32 → Int32 → Int32 → (Nat → Int32) → (Nat → Int32) → (Nat → Int32) → (Nat → Int32) → (Nat → Int32) → (Nat → Int32) → (Nat → Int32) → (Nat → Int32) → (Nat → Int32) → (Nat → Int32) → (Nat → Int32) → Prop} {x1 c : Int32} {s j : Nat} (hs : s < 80) (h : J c (nI (j + 1)) (nI ((s + 1) % 80)) fh fl th fr ha be va ba lo sV he sp sh) : wY_scrub_120 P J x1 c (nI j) (nI s) fh fl th fr ha be va ba lo sV he sp sh := by
  unfold wY_scrub_120
  exact ⟨by decide, nm_r (cw_mod80 hs) (nm_r (nI_1 j) h)⟩
theorem cy_s66 {P : Int32 → SY → Prop} {J : Int32 → Int32 → Int32 → Int32 → Int32 → (Nat → Int32) → (Nat → Int32) → (Nat → Int32) → (Nat → Int32) → (Nat → Int32) → (Nat → Int32) → (Nat → Int32) → (Nat → Int32) → (Nat → Int32) → (Nat → Int32) → (Nat → Int32) → Prop} {x1 c : Int32} {s j : Nat} (hs : s < 80) (h : J c (nI (j + 1)) (nI ((s + 1) % 80)) fh fl th fr ha be va ba lo sV he sp sh) : wY_scrub_66 P J x1 c (nI j) (nI s) fh fl th fr ha be va ba lo sV he sp sh := by
  unfold wY_scrub_66 wY_scrub_67 wY_scrub_86 wY_scrub_106
  have h2 := cy_s120 (P := P) (x1 := x1) hs h
  exact ⟨cw_in (by omega) (by decide), br_c (fun _ => br_t rfl (br_t rfl h2)) (fun _ => br_t rfl (br_t rfl h2))⟩
theorem cy_s86 {P : Int32 → SY → Prop} {J : Int32 → Int32 → Int32 → Int32 → Int32 → (Nat → Int32) → (Nat → Int32) → (Nat → Int32) → (Nat → Int32) → (Nat → Int32) → (Nat → Int32) → (Nat → Int32) → (Nat → Int32) → (Nat → Int32) → (Nat → Int32) → (Nat → Int32) → Prop} {x1 c : Int32} {s j q : Nat} (hq : q < 2)
    (h : wpY_look (fun _ u => match u with | (f1, f2, f3, a1, a2, a3, a4, a5, a6, a7, a8, a9, a10, a11) => wY_scrub_120 P J x1 (c + nI (if lo q = 0 then 1 else 0)) (nI j) f1 f2 f3 a1 a2 a3 a4 a5 a6 a7 a8 a9 a10 a11) (nI s, fh, fl, th, fr, ha, be, va, ba, lo, sV, he, sp, sh) (nI s)) : wY_scrub_86 P J x1 c (nI j) 1 (nI q) (nI s) fh fl th fr ha be va ba lo sV he sp sh := by
  unfold wY_scrub_86 wY_scrub_106
  rw [cw_cl (n := q) (by omega)]
  refine br_f (by decide) ⟨cw_in hq (by decide), ?_⟩
  by_cases hl : lo q = 0
  · rw [if_pos hl] at h
    exact br_t hl (nm_e (br_f (by decide) h))
  · rw [if_neg hl, nI_0, Int32.add_zero] at h
    exact br_f hl (br_f (by decide) h)
theorem cy_s67 {P : Int32 → SY → Prop} {J : Int32 → Int32 → Int32 → Int32 → Int32 → (Nat → Int32) → (Nat → Int32) → (Nat → Int32) → (Nat → Int32) → (Nat → Int32) → (Nat → Int32) → (Nat → Int32) → (Nat → Int32) → (Nat → Int32) → (Nat → Int32) → (Nat → Int32) → Prop} {x1 c : Int32} {s j h' : Nat} {ba' : Nat → Int32} {y : Int64} (hs : s < 80)
    (hY : ∀ P : Int64 → SY → Prop, P y (nI s, nI h', fl, th, fr, ha, be, va, ba', lo, sV, he, sp, sh) → wpY_look P (nI s, fh, fl, th, fr, ha, be, va, ba, lo, sV, he, sp, sh) (nI s))
    (h : J (c + nI (cw_scr lo ba s)) (nI (j + 1)) (nI ((s + 1) % 80)) (nI h') fl th fr ha be va ba' lo sV he sp sh) : wY_scrub_67 P J x1 c (nI j) 1 (nI s) fh fl th fr ha be va ba lo sV he sp sh := by
  unfold wY_scrub_67
  rw [cw_cl (n := s) (by omega)]
  unfold cw_scr at h
  refine ⟨cw_in (by omega) (by decide), br_c (fun z => ?_) (fun z => ?_)⟩
  · rw [if_pos z] at h
    exact cy_s86 (q := 1) (by decide) (hY _ (cy_s120 hs h))
  · rw [if_neg z] at h
    exact cy_s86 (q := 0) (by decide) (hY _ (cy_s120 hs h))
theorem cj_scrub2 {g : Nat → Nat} {n : Nat} (hn : n ≤ 80) (hH : cw_HC g hc) (hE : cw_HE g he) : ∀ (d j s h : Nat) (c : Int32) (go ba : Nat → Int32), j + d = n → s < 80 → h < 1000000 → cw_RG g go ba →
    ∃ (r : Int32) (s' h' : Nat) (go' ba' : Nat → Int32), s' < 80 ∧ h' < 1000000 ∧ cw_RG g go' ba' ∧ (∀ P : Int32 → SX → Prop, P r (nI s', nI h', fl, th, wr, bk, hc, va, go', lo, sp, sv, sh, sd) → wX_scrub_16 P (nI n) (d + 1) c (nI j) (nI s) (nI h) fl th wr bk hc va go lo sp sv sh sd) ∧ (∀ P : Int32 → SY → Prop, P r (nI s', nI h', fl, th, fr, ha, be, va, ba', lo, sV, he, sp, sh) → wY_scrub_19 P (nI n) (d + 1) c (nI j) (nI s) (nI h) fl th fr ha be va ba lo sV he sp sh) := by
  intro d
  induction d with
  | zero =>
    intro j s h c go ba hj hs hh hR
    obtain rfl : j = n := by omega
    have hle : nI j ≤ nI j := nI_le (by omega) (by omega)
    exact ⟨c, s, h, go, ba, hs, hh, hR, fun P hP => br_t hle hP, fun P hP => br_t hle hP⟩
  | succ d ih =>
    intro j s h c go ba hj hs hh hR
    have hlt : ¬ nI n ≤ nI j := nI_ge (by omega) (by omega)
    have hl := cw_C_le g (s + 1)
    have hm : (s + 1) % 80 < 80 := Nat.mod_lt _ (by decide)
    have i81 : vp_in (nI (s + 1)) 81 := cw_in (by omega) (by decide)
    have i1 : vp_in (nI s) 160 := cw_in (by omega) (by decide)
    have i2 : vp_in (nI (80 + s)) 160 := cw_in (by omega) (by decide)
    unfold wX_scrub_16 wY_scrub_19 wX_scrub_43
    rw [cw_ix5, cw_cl (n := s) (by omega), cw_cl (n := 80 + s) (by omega), nI_1 s, cw_cl (n := s + 1) (by omega), hE s hs, cw_zl (by omega)]
    by_cases hu : 0 < cw_C g (s + 1)
    · obtain ⟨G0, G1⟩ := hR s hs hu
      obtain ⟨r, h', go', ba', y, hh', hn', G0', G1', hy, hsc, hX, hY⟩ := cj_look (fs := nI s) (fl := fl) (th := th) (wr := wr) (bk := bk) (hc := hc) (va := va) (go := go) (lo := lo) (sp := sp) (sv := sv) (sh := sh) (sd := sd) (fr := fr) (ha := ha) (be := be) (ba := ba) (sV := sV) (he := he) hs hh G0 G1
      have hR' := cw_RG_look hs hR hn' G0' G1'
      obtain ⟨r2, s2, h2, go2, ba2, hs2, hh2, hR2, hX2, hY2⟩ := ih (j + 1) ((s + 1) % 80) h' (c + nI r) go' ba' (by omega) hm hh' hR'
      refine ⟨r2, s2, h2, go2, ba2, hs2, hh2, hR2, fun P hP => br_f hlt (cx_used_t hs hH hu (br_f (by decide) (hX _ (nm_e ⟨by decide, nm_r ?_ (nm_r (nI_1 j) (hX2 P hP))⟩)))), fun P hP => br_f hlt ⟨i81, br_f (by omega) ⟨i1, i2, ?_⟩⟩⟩
      · exact cw_mod80 hs
      · rcases hsc with ⟨e, rfl, rfl, rfl, rfl⟩ | ⟨e, rfl⟩
        · refine br_t e (cy_s66 hs ?_)
          have := hY2 P hP
          rw [nI_0, Int32.add_zero] at this
          exact this
        · exact br_f e (cy_s67 hs hY (hY2 P hP))
    · obtain ⟨r2, s2, h2, go2, ba2, hs2, hh2, hR2, hX2, hY2⟩ := ih (j + 1) ((s + 1) % 80) h c go ba (by omega) hm hh hR
      refine ⟨r2, s2, h2, go2, ba2, hs2, hh2, hR2, fun P hP => br_f hlt (cx_used_z hs hH hu (br_t rfl ⟨by decide, nm_r ?_ (nm_r (nI_1 j) (hX2 P hP))⟩)), fun P hP => br_f hlt ⟨i81, br_t (by omega) (cy_s66 hs (hY2 P hP))⟩⟩
      have := cw_mod80 hs
      rw [nI_1] at this
      exact this
theorem i_vc_scrub {k : Nat} {u : SX} {v : SY} (I : i_Rel k u v) (hk : k + 6 ≤ 3072) (v1 : Int32) : wpX_scrub (fun r u' => wpY_scrub (fun r' v' => r' = r ∧ i_Rel (k + 6) u' v') v v1) u v1 := by
  obtain ⟨g, s, h, l, th, wr, bk, hc, va, go, lo, sp, sv, sh, sd, fr, ha, be, ba, sV, he, rfl, rfl, hs, hh, hl, hW, hB, hH, hA, hG, hL, hS, hV⟩ := I
  unfold wpX_scrub wpY_scrub
  dsimp only
  by_cases h1 : cw_lt 81 v1
  · obtain ⟨n, hn, rfl⟩ := h1
    obtain ⟨he', hE, hT⟩ := cy_tally (fs := nI s) (fh := nI h) (fl := nI l) (fr := fr) (be := be) (va := va) (ba := ba) (lo := lo) (sV := sV) (he := he) (sp := sp) (sh := sh) hA (cw_g80 hB)
    obtain ⟨r, s', h', go', ba', hs', hh', hR', hX, hY⟩ := cj_scrub2 (fl := nI l) (th := th) (wr := wr) (bk := bk) (va := va) (lo := lo) (sp := sp) (sv := sv) (sh := sh) (sd := sd) (fr := fr) (ha := ha) (be := be) (sV := sV) (n := n) (by omega) hH hE n 0 s h 0 go ba (by omega) hs hh hG
    exact br_f (nI_pos (by omega)) (br_t (nI_le (b := 80) (by omega) (by decide)) ⟨n + 1, hX _ (cy_out_t (n := 81) hn (by decide) (br_t rfl (hT _ ⟨n + 1, hY _ ⟨rfl, cw_mk ⟨hs', hh', hl, hW, hB, hH, hA, hR', hL, hS, hV⟩⟩⟩)))⟩)
  · have hY : wpY_out (fun r_4 => (r_4 = 0 → wpY_tally (fun u => match u with | (f1, f2, f3, a1, a2, a3, a4, a5, a6, a7, a8, a9, a10, a11) => ∃ n19, wY_scrub_19 (fun r' v' => r' = -1 ∧ i_Rel (k + 6) (nI s, nI h, nI l, th, wr, bk, hc, va, go, lo, sp, sv, sh, sd) v') v1 n19 0 0 f1 f2 f3 a1 a2 a3 a4 a5 a6 a7 a8 a9 a10 a11) (nI s, nI h, nI l, th, fr, ha, be, va, ba, lo, sV, he, sp, sh)) ∧ (¬ r_4 = 0 → -1 = (-1 : Int32) ∧ i_Rel (k + 6) (nI s, nI h, nI l, th, wr, bk, hc, va, go, lo, sp, sv, sh, sd) (nI s, nI h, nI l, th, fr, ha, be, va, ba, lo, sV, he, sp, sh))) v1 81 :=
      cy_out_f (n := 81) h1 (by decide) (br_f (by decide) ⟨rfl, cw_mk ⟨hs, hh, hl, hW, hB, hH, hA, hG, hL, hS, hV⟩⟩)
    rcases pk_ix v1 (n := 81) (by decide) with h2 | h2 | h2
    · exact br_t h2 hY
    · exact br_c (fun _ => hY) (fun _ => br_f (fun z => absurd (Int32.le_trans h2 z) (by decide)) hY)
    · exact absurd h2 h1
end
