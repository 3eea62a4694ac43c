section
variable {fs fh fl : Int32} {th wr bk hc va go lo sp sv sh sd fr ha be ba sV he : Nat → Int32}
def cw_zb (x : Int32) : Int32 := if x = 0 then 0 else 1
theorem cw_zb_G {a b : Int32} (h : cw_G a b) : cw_zb b = b := by
  rcases h with ⟨_, h⟩ | ⟨_, h⟩ <;> subst h <;> decide
theorem cy_c99_0 {P : Int32 → SY → Prop} {J : Int32 → Int32 → Prop} {c z0 z1 : Int32} {j : Nat} (h : J (c + 1) (nI (j + 1))) : wY_count_99 P J 0 c (nI j) z0 z1 fs fh fl th fr ha be va ba lo sV he sp sh := by
  unfold wY_count_99
  exact nm_e (br_t rfl (nm_e (nm_r (nI_1 j) h)))
theorem cy_c99_2 {P : Int32 → SY → Prop} {J : Int32 → Int32 → Prop} {c z0 z1 : Int32} {j : Nat} (h : J (c + (z1 + z0)) (nI (j + 1))) : wY_count_99 P J 2 c (nI j) z0 z1 fs fh fl th fr ha be va ba lo sV he sp sh := by
  unfold wY_count_99
  exact nm_e (br_f (by decide) (br_t rfl (nm_e (nm_r (nI_1 j) h))))
theorem cy_c99_1 {P : Int32 → SY → Prop} {J : Int32 → Int32 → Prop} {c z0 z1 : Int32} {j : Nat} (h : J (c + (z1 + z0) / 2) (nI (j + 1))) : wY_count_99 P J 1 c (nI j) z0 z1 fs fh fl th fr ha be va ba lo sV he sp sh := by
  unfold wY_count_99
  exact nm_e (br_f (by decide) (br_f (by decide) ⟨by decide, nm_e (nm_r (nI_1 j) h)⟩))
theorem cy_cstep_u {g : Nat → Nat} {P : Int32 → SY → Prop} {x1 c : Int32} {j n : Nat} (hj : j < 80) (hE : cw_HE g he) (hu : 0 < cw_C g (j + 1)) (h : wY_count_99 P (wY_count_48 P x1 fs fh fl th fr ha be va ba lo sV he sp sh n) x1 c (nI j) (cw_zb (ba (80 + j))) (cw_zb (ba j)) fs fh fl th fr ha be va ba lo sV he sp sh) : wY_count_48 P x1 fs fh fl th fr ha be va ba lo sV he sp sh (n + 1) c (nI j) := by
  have hl := cw_C_le g (j + 1)
  unfold wY_count_48 wY_count_82
  rw [cw_ix5, cw_cl (n := j) (by omega), cw_cl (n := 80 + j) (by omega), nI_1 j, cw_cl (n := j + 1) (by omega), hE j hj, cw_z0 (by omega)]
  have i1 : vp_in (nI j) 160 := cw_in (by omega) (by decide)
  have i2 : vp_in (nI (80 + j)) 160 := cw_in (by omega) (by decide)
  unfold cw_zb at h
  refine br_f (nI_ge (b := 80) hj (by decide)) ⟨cw_in (by omega) (by decide), br_f (by omega) ⟨i1, ?_⟩⟩
  by_cases e1 : ba j = 0
  · rw [if_pos e1] at h
    by_cases e2 : ba (80 + j) = 0
    · rw [if_pos e2] at h
      exact br_t e1 ⟨i2, br_t e2 h⟩
    · rw [if_neg e2] at h
      exact br_t e1 ⟨i2, br_f e2 h⟩
  · rw [if_neg e1] at h
    by_cases e2 : ba (80 + j) = 0
    · rw [if_pos e2] at h
      exact br_f e1 ⟨i2, br_t e2 h⟩
    · rw [if_neg e2] at h
      exact br_f e1 ⟨i2, br_f e2 h⟩
theorem cy_cstep_z {g : Nat → Nat} {P : Int32 → SY → Prop} {x1 c : Int32} {j n : Nat} (hj : j < 80) (hE : cw_HE g he) (hu : ¬ 0 < cw_C g (j + 1)) (h : wY_count_48 P x1 fs fh fl th fr ha be va ba lo sV he sp sh n c (nI (j + 1))) : wY_count_48 P x1 fs fh fl th fr ha be va ba lo sV he sp sh (n + 1) c (nI j) := by
  have hl := cw_C_le g (j + 1)
  unfold wY_count_48
  rw [nI_1 j, cw_cl (n := j + 1) (by omega), hE j hj, cw_z0 (by omega)]
  exact br_f (nI_ge (b := 80) hj (by decide)) ⟨cw_in (by omega) (by decide), br_t (by omega) (nm_e h)⟩
theorem cy_cend {P : Int32 → SY → Prop} {x1 c : Int32} {n : Nat} (h : P c (fs, fh, fl, th, fr, ha, be, va, ba, lo, sV, he, sp, sh)) : wY_count_48 P x1 fs fh fl th fr ha be va ba lo sV he sp sh (n + 1) c (nI 80) := br_t (show (80 : Int32) ≤ nI 80 by decide) h
theorem cj_count0 {g : Nat → Nat} (hH : cw_HC g hc) (hE : cw_HE g he) : ∀ (d j : Nat) (c : Int32), j + d = 80 →
    ∃ r, (∀ P : Int32 → Prop, P r → wX_countUsed_4 P fs fh fl th wr bk hc va go lo sp sv sh sd (d + 1) c (nI j)) ∧ (∀ P : Int32 → SY → Prop, P r (fs, fh, fl, th, fr, ha, be, va, ba, lo, sV, he, sp, sh) → wY_count_48 P 0 fs fh fl th fr ha be va ba lo sV he sp sh (d + 1) c (nI j)) := by
  intro d
  induction d with
  | zero =>
    intro j c hj
    obtain rfl : j = 80 := by omega
    exact ⟨c, fun P hP => br_t (show (80 : Int32) ≤ nI 80 by decide) hP, fun P hP => cy_cend hP⟩
  | succ d ih =>
    intro j c hj
    have h : ¬ (80 : Int32) ≤ nI j := nI_ge (b := 80) (by omega) (by decide)
    by_cases hu : 0 < cw_C g (j + 1)
    · obtain ⟨r, hX, hY⟩ := ih (j + 1) (c + 1) (by omega)
      exact ⟨r, fun P hP => br_f h (cx_used_t (by omega) hH hu (br_f (by decide) (nm_e (nm_r (nI_1 j) (hX P hP))))), fun P hP => cy_cstep_u (by omega) hE hu (cy_c99_0 (hY P hP))⟩
    · obtain ⟨r, hX, hY⟩ := ih (j + 1) c (by omega)
      exact ⟨r, fun P hP => br_f h (cx_used_z (by omega) hH hu (br_t rfl (nm_r (nI_1 j) (hX P hP)))), fun P hP => cy_cstep_z (by omega) hE hu (hY P hP)⟩
theorem cw_d00 (c : Int32) : c + ((0 : Int32) + 0) / 2 = c := by rw [show ((0 : Int32) + 0) / 2 = 0 by decide, Int32.add_zero]
theorem cw_d01 (c : Int32) : c + ((0 : Int32) + 1) / 2 = c := by rw [show ((0 : Int32) + 1) / 2 = 0 by decide, Int32.add_zero]
theorem cw_d10 (c : Int32) : c + ((1 : Int32) + 0) / 2 = c := by rw [show ((1 : Int32) + 0) / 2 = 0 by decide, Int32.add_zero]
theorem cw_d11 (c : Int32) : c + ((1 : Int32) + 1) / 2 = c + 1 := by rw [show ((1 : Int32) + 1) / 2 = 1 by decide]
theorem cj_count1 {g : Nat → Nat} (hH : cw_HC g hc) (hE : cw_HE g he) (hR : cw_RG g go ba) : ∀ (d j : Nat) (c : Int32), j + d = 80 →
    ∃ r, (∀ P : Int32 → Prop, P r → wX_countBroken_4 P fs fh fl th wr bk hc va go lo sp sv sh sd (d + 1) c (nI j)) ∧ (∀ P : Int32 → SY → Prop, P r (fs, fh, fl, th, fr, ha, be, va, ba, lo, sV, he, sp, sh) → wY_count_48 P 1 fs fh fl th fr ha be va ba lo sV he sp sh (d + 1) c (nI j)) := by
  intro d
  induction d with
  | zero =>
    intro j c hj
    obtain rfl : j = 80 := by omega
    exact ⟨c, fun P hP => br_t (show (80 : Int32) ≤ nI 80 by decide) hP, fun P hP => cy_cend hP⟩
  | succ d ih =>
    intro j c hj
    have h : ¬ (80 : Int32) ≤ nI j := nI_ge (b := 80) (by omega) (by decide)
    by_cases hu : 0 < cw_C g (j + 1)
    · obtain ⟨G0, G1⟩ := hR j (by omega) hu
      have z0 := cw_zb_G G0
      have z1 := cw_zb_G G1
      by_cases hb : go j = 0 ∧ go (80 + j) = 0
      · obtain ⟨r, hX, hY⟩ := ih (j + 1) (c + 1) (by omega)
        refine ⟨r, fun P hP => br_f h (cx_used_t (by omega) hH hu (br_f (by decide) (cx_broken_t (by omega) hb.1 hb.2 (br_f (by decide) (nm_e (nm_r (nI_1 j) (hX P hP))))))), fun P hP => cy_cstep_u (by omega) hE hu (cy_c99_1 ?_)⟩
        rw [z0, z1]
        rcases G0 with ⟨_, e0⟩ | ⟨f0, e0⟩
        · rcases G1 with ⟨_, e1⟩ | ⟨f1, e1⟩
          · rw [e0, e1, cw_d11]
            exact hY P hP
          · exact absurd (f1.symm.trans hb.2) (by decide)
        · exact absurd (f0.symm.trans hb.1) (by decide)
      · obtain ⟨r, hX, hY⟩ := ih (j + 1) c (by omega)
        refine ⟨r, fun P hP => br_f h (cx_used_t (by omega) hH hu (br_f (by decide) (cx_broken_f (by omega) hb (br_t rfl (nm_r (nI_1 j) (hX P hP)))))), fun P hP => cy_cstep_u (by omega) hE hu (cy_c99_1 ?_)⟩
        rw [z0, z1]
        rcases G0 with ⟨f0, e0⟩ | ⟨f0, e0⟩ <;> rcases G1 with ⟨f1, e1⟩ | ⟨f1, e1⟩
        · exact absurd ⟨f0, f1⟩ hb
        · rw [e0, e1, cw_d10]
          exact hY P hP
        · rw [e0, e1, cw_d01]
          exact hY P hP
        · rw [e0, e1, cw_d00]
          exact hY P hP
    · obtain ⟨r, hX, hY⟩ := ih (j + 1) c (by omega)
      exact ⟨r, fun P hP => br_f h (cx_used_z (by omega) hH hu (br_t rfl (nm_r (nI_1 j) (hX P hP)))), fun P hP => cy_cstep_z (by omega) hE hu (hY P hP)⟩
theorem cx_bc_end {P : Int32 → Prop} {J : Int32 → Int32 → Prop} {c : Int32} {j n : Nat} (h : J c (nI (j + 1))) : wX_countBadCopies_12 P J (nI j) fs fh fl th wr bk hc va go lo sp sv sh sd (n + 1) c (nI 2) := br_t (show (2 : Int32) ≤ nI 2 by decide) (nm_r (nI_1 j) h)
theorem cx_bc_z {P : Int32 → Prop} {J : Int32 → Int32 → Prop} {g : Nat → Nat} {c : Int32} {j n d : Nat} (hd : d < 2) (hj : j < 80) (hH : cw_HC g hc) (hu : ¬ 0 < cw_C g (j + 1)) (h : wX_countBadCopies_12 P J (nI j) fs fh fl th wr bk hc va go lo sp sv sh sd n c (nI (d + 1))) : wX_countBadCopies_12 P J (nI j) fs fh fl th wr bk hc va go lo sp sv sh sd (n + 1) c (nI d) :=
  br_f (nI_ge (b := 2) hd (by decide)) (cx_used_z hj hH hu (br_t rfl (nm_r (nI_1 d) h)))
theorem cx_bc_g {P : Int32 → Prop} {J : Int32 → Int32 → Prop} {g : Nat → Nat} {c : Int32} {j n d i : Nat} (hd : d < 2) (hj : j < 80) (hi : 80 * d + j = i) (hH : cw_HC g hc) (hu : 0 < cw_C g (j + 1)) (hg : ¬ go i = 0) (h : wX_countBadCopies_12 P J (nI j) fs fh fl th wr bk hc va go lo sp sv sh sd n c (nI (d + 1))) : wX_countBadCopies_12 P J (nI j) fs fh fl th wr bk hc va go lo sp sv sh sd (n + 1) c (nI d) := by
  unfold wX_countBadCopies_12
  rw [cw_ix3, hi, cw_cl (n := i) (by omega)]
  exact br_f (nI_ge (b := 2) hd (by decide)) (cx_used_t hj hH hu (br_f (by decide) ⟨cw_in (by omega) (by decide), br_f hg (nm_r (nI_1 d) h)⟩))
theorem cx_bc_b {P : Int32 → Prop} {J : Int32 → Int32 → Prop} {g : Nat → Nat} {c : Int32} {j n d i : Nat} (hd : d < 2) (hj : j < 80) (hi : 80 * d + j = i) (hH : cw_HC g hc) (hu : 0 < cw_C g (j + 1)) (hg : go i = 0) (h : wX_countBadCopies_12 P J (nI j) fs fh fl th wr bk hc va go lo sp sv sh sd n (c + 1) (nI (d + 1))) : wX_countBadCopies_12 P J (nI j) fs fh fl th wr bk hc va go lo sp sv sh sd (n + 1) c (nI d) := by
  unfold wX_countBadCopies_12
  rw [cw_ix3, hi, cw_cl (n := i) (by omega)]
  exact br_f (nI_ge (b := 2) hd (by decide)) (cx_used_t hj hH hu (br_f (by decide) ⟨cw_in (by omega) (by decide), br_t hg (nm_e (nm_r (nI_1 d) h))⟩))
theorem cj_count2 {g : Nat → Nat} (hH : cw_HC g hc) (hE : cw_HE g he) (hR : cw_RG g go ba) : ∀ (d j : Nat) (c : Int32), j + d = 80 →
    ∃ r, (∀ P : Int32 → Prop, P r → wX_countBadCopies_4 P fs fh fl th wr bk hc va go lo sp sv sh sd (d + 1) c (nI j)) ∧ (∀ P : Int32 → SY → Prop, P r (fs, fh, fl, th, fr, ha, be, va, ba, lo, sV, he, sp, sh) → wY_count_48 P 2 fs fh fl th fr ha be va ba lo sV he sp sh (d + 1) c (nI j)) := by
  intro d
  induction d with
  | zero =>
    intro j c hj
    obtain rfl : j = 80 := by omega
    exact ⟨c, fun P hP => br_t (show (80 : Int32) ≤ nI 80 by decide) hP, fun P hP => cy_cend hP⟩
  | succ d ih =>
    intro j c hj
    have hj80 : j < 80 := by omega
    have h : ¬ (80 : Int32) ≤ nI j := nI_ge (b := 80) (by omega) (by decide)
    have i0 : 80 * 0 + j = j := by omega
    have i1 : 80 * 1 + j = 80 + j := by omega
    by_cases hu : 0 < cw_C g (j + 1)
    · obtain ⟨G0, G1⟩ := hR j hj80 hu
      have z0 := cw_zb_G G0
      have z1 := cw_zb_G G1
      obtain ⟨r, hX, hY⟩ := ih (j + 1) (c + (ba j + ba (80 + j))) (by omega)
      refine ⟨r, fun P hP => br_f h ⟨3, ?_⟩, fun P hP => cy_cstep_u hj80 hE hu (cy_c99_2 ?_)⟩
      · have hX' := hX P hP
        rcases G0 with ⟨f0, e0⟩ | ⟨f0, e0⟩ <;> rcases G1 with ⟨f1, e1⟩ | ⟨f1, e1⟩ <;> rw [e0, e1] at hX'
        · rw [show c + ((1 : Int32) + 1) = c + 1 + 1 from (Int32.add_assoc _ _ _).symm] at hX'
          exact cx_bc_b (d := 0) (by decide) hj80 i0 hH hu f0 (cx_bc_b (d := 1) (by decide) hj80 i1 hH hu f1 (cx_bc_end hX'))
        · rw [show (1 : Int32) + 0 = 1 by decide] at hX'
          exact cx_bc_b (d := 0) (by decide) hj80 i0 hH hu f0 (cx_bc_g (d := 1) (by decide) hj80 i1 hH hu (by rw [f1]; decide) (cx_bc_end hX'))
        · rw [show (0 : Int32) + 1 = 1 by decide] at hX'
          exact cx_bc_g (d := 0) (by decide) hj80 i0 hH hu (by rw [f0]; decide) (cx_bc_b (d := 1) (by decide) hj80 i1 hH hu f1 (cx_bc_end hX'))
        · rw [show (0 : Int32) + 0 = 0 by decide, Int32.add_zero] at hX'
          exact cx_bc_g (d := 0) (by decide) hj80 i0 hH hu (by rw [f0]; decide) (cx_bc_g (d := 1) (by decide) hj80 i1 hH hu (by rw [f1]; decide) (cx_bc_end hX'))
      · rw [z0, z1]
        exact hY P hP
    · obtain ⟨r, hX, hY⟩ := ih (j + 1) c (by omega)
      exact ⟨r, fun P hP => br_f h ⟨3, cx_bc_z (d := 0) (by decide) hj80 hH hu (cx_bc_z (d := 1) (by decide) hj80 hH hu (cx_bc_end (hX P hP)))⟩, fun P hP => cy_cstep_z hj80 hE hu (hY P hP)⟩
theorem i_vc_count {k : Nat} {u : SX} {v : SY} (I : i_Rel k u v) (hk : k + 6 ≤ 3072) (v1 : Int32) : wpX_count (fun r => wpY_count (fun r' v' => r' = r ∧ i_Rel (k + 6) u v') v v1) u v1 := by
  obtain ⟨g, s, h, l, th, wr, bk, hc, va, go, lo, sp, sv, sh, sd, fr, ha, be, ba, sV, he, rfl, rfl, hs, hh, hl, hW, hB, hH, hA, hG, hL, hS, hV⟩ := I
  unfold wpX_count wpY_count
  dsimp only
  obtain ⟨he', hE, hT⟩ := cy_tally (fs := nI s) (fh := nI h) (fl := nI l) (fr := fr) (be := be) (va := va) (ba := ba) (lo := lo) (sV := sV) (he := he) (sp := sp) (sh := sh) hA (cw_g80 hB)
  by_cases h1 : cw_lt 6 v1
  · obtain ⟨n, hn, rfl⟩ := h1
    refine br_f (nI_pos (by omega)) (br_f (nI_nlt (a := 5) (b := n) (by omega) (by decide)) ?_)
    rcases (show n = 0 ∨ n = 1 ∨ n = 2 ∨ n = 3 ∨ n = 4 ∨ n = 5 by omega) with e | e | e | e | e | e <;> subst e
    · obtain ⟨r, hX, hY⟩ := cj_count0 (fs := nI s) (fh := nI h) (fl := nI l) (th := th) (wr := wr) (bk := bk) (va := va) (go := go) (lo := lo) (sp := sp) (sv := sv) (sh := sh) (sd := sd) (fr := fr) (ha := ha) (be := be) (ba := ba) (sV := sV) hH hE 80 0 0 rfl
      exact br_t rfl ⟨81, hX _ (br_f (by decide) (br_f (by decide) (br_f (by decide) (cy_out_t (n := 3) (by decide) (by decide) (br_t rfl (hT _ ⟨81, hY _ ⟨rfl, cw_mk ⟨hs, hh, hl, hW, hB, hH, hA, hG, hL, hS, hV⟩⟩⟩))))))⟩
    · obtain ⟨r, hX, hY⟩ := cj_count1 (fs := nI s) (fh := nI h) (fl := nI l) (th := th) (wr := wr) (bk := bk) (va := va) (lo := lo) (sp := sp) (sv := sv) (sh := sh) (sd := sd) (fr := fr) (ha := ha) (be := be) (sV := sV) hH hE hG 80 0 0 rfl
      exact br_f (by decide) (br_t rfl ⟨81, hX _ (br_f (by decide) (br_f (by decide) (br_f (by decide) (cy_out_t (n := 3) (by decide) (by decide) (br_t rfl (hT _ ⟨81, hY _ ⟨rfl, cw_mk ⟨hs, hh, hl, hW, hB, hH, hA, hG, hL, hS, hV⟩⟩⟩))))))⟩)
    · obtain ⟨r, hX, hY⟩ := cj_count2 (fs := nI s) (fh := nI h) (fl := nI l) (th := th) (wr := wr) (bk := bk) (va := va) (lo := lo) (sp := sp) (sv := sv) (sh := sh) (sd := sd) (fr := fr) (ha := ha) (be := be) (sV := sV) hH hE hG 80 0 0 rfl
      exact br_f (by decide) (br_f (by decide) (br_t rfl ⟨81, hX _ (br_f (by decide) (br_f (by decide) (br_f (by decide) (cy_out_t (n := 3) (by decide) (by decide) (br_t rfl (hT _ ⟨81, hY _ ⟨rfl, cw_mk ⟨hs, hh, hl, hW, hB, hH, hA, hG, hL, hS, hV⟩⟩⟩))))))⟩))
    · exact br_f (by decide) (br_f (by decide) (br_f (by decide) (br_t rfl (br_t rfl ⟨rfl, cw_mk ⟨hs, hh, hl, hW, hB, hH, hA, hG, hL, hS, hV⟩⟩))))
    · exact br_f (by decide) (br_f (by decide) (br_f (by decide) (br_f (by decide) (br_t rfl (br_f (by decide) (br_t rfl ⟨rfl, cw_mk ⟨hs, hh, hl, hW, hB, hH, hA, hG, hL, hS, hV⟩⟩))))))
    · exact br_f (by decide) (br_f (by decide) (br_f (by decide) (br_f (by decide) (br_f (by decide) (br_t rfl (br_f (by decide) (br_f (by decide) (br_t rfl ⟨rfl, cw_mk ⟨hs, hh, hl, hW, hB, hH, hA, hG, hL, hS, hV⟩⟩))))))))
  · have hne : ∀ n, n < 6 → ¬ v1 = nI n := fun n hn e => h1 ⟨n, hn, e⟩
    have h3 : ¬ cw_lt 3 v1 := fun ⟨j, hj, e⟩ => h1 ⟨j, by omega, e⟩
    have hY : wpY_count (fun r' v' => r' = -1 ∧ i_Rel (k + 6) (nI s, nI h, nI l, th, wr, bk, hc, va, go, lo, sp, sv, sh, sd) v') (nI s, nI h, nI l, th, fr, ha, be, va, ba, lo, sV, he, sp, sh) v1 := by
      unfold wpY_count
      dsimp only
      exact br_f (hne 3 (by decide)) (br_f (hne 4 (by decide)) (br_f (hne 5 (by decide)) (cy_out_f (n := 3) h3 (by decide) (br_f (by decide) ⟨rfl, cw_mk ⟨hs, hh, hl, hW, hB, hH, hA, hG, hL, hS, hV⟩⟩))))
    rcases pk_ix v1 (n := 6) (by decide) with h2 | h2 | h2
    · exact br_t h2 hY
    · exact br_c (fun _ => hY) (fun _ => br_t (Int32.lt_of_lt_of_le (show (5 : Int32) < nI 6 by decide) h2) hY)
    · exact absurd h2 h1
end
