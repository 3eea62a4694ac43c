section
variable {fs fh fl : Int32} {th wr bk hc va go lo sp sv sh sd fr ha be ba sV he : Nat → Int32}
theorem cw_RG_cp {g : Nat → Nat} {D S n : Nat} (hS : S + n ≤ 384) (hR : cw_RG g go ba) : cw_RG (cw_cp g D S n) go ba := cw_RG_sub hR (fun b _ hu => by
  obtain ⟨x, hx, e⟩ := cw_C_pos.mp hu
  obtain ⟨y, hy, e2⟩ := cw_cp_of (g := g) (d := D) (s := S) (i := n) hS hx
  exact cw_C_pos.mpr ⟨y, hy, e2.symm.trans e⟩)
theorem cx_sn48 {g : Nat → Nat} {v m : Nat} (hv : v < 6) (hm : m < 6) (hne : v ≠ m) (hg : ∀ x, x < 384 → g x ≤ 80) : ∀ (d j : Nat) (bk hc : Nat → Int32), j + d = 64 → cw_BK (cw_cp g (64 * m) (64 * v) j) bk → cw_HC (cw_cp g (64 * m) (64 * v) j) hc →
    ∃ bk' hc', cw_BK (cw_cp g (64 * m) (64 * v) 64) bk' ∧ cw_HC (cw_cp g (64 * m) (64 * v) 64) hc' ∧ ∀ P : Int32 → SX → Prop, P (nI m) (fs, fh, fl, th, wr, bk', hc', va, go, lo, sp, sv, sh, sd) → wX_snapshot_48 P (nI v) (nI m) (d + 1) (nI j) fs fh fl th wr bk hc va go lo sp sv sh sd := by
  intro d
  induction d with
  | zero =>
    intro j bk hc hj hB hH
    obtain rfl : j = 64 := by omega
    exact ⟨bk, hc, hB, hH, fun P hP => br_t (show (64 : Int32) ≤ nI 64 by decide) hP⟩
  | succ d ih =>
    intro j bk hc hj hB hH
    have hx : 64 * v + j < 384 := by omega
    have eB := (hB (64 * v + j) hx).2
    rw [cw_cp_out (by omega)] at eB
    obtain ⟨bk1, hc1, hB1, hH1, hT1⟩ := cx_put (fs := fs) (fh := fh) (fl := fl) (th := th) (wr := wr) (va := va) (go := go) (lo := lo) (sp := sp) (sv := sv) (sh := sh) (sd := sd) (p := j) (e := g (64 * v + j)) hm (by omega) (hg _ hx) hB hH
    rw [← cw_cp_s] at hB1 hH1
    obtain ⟨bk2, hc2, hB2, hH2, hT2⟩ := ih (j + 1) bk1 hc1 (by omega) hB1 hH1
    refine ⟨bk2, hc2, hB2, hH2, fun P hP => ?_⟩
    unfold wX_snapshot_48
    rw [cw_ix1, cw_cl (n := 64 * v + j) (by omega), eB]
    exact br_f (nI_ge (b := 64) (by omega) (by decide)) ⟨cw_in hx (by decide), hT1 _ (nm_r (nI_1 j) (hT2 P hP))⟩
theorem cy_sn32 {g : Nat → Nat} {v m : Nat} (hv : v < 6) (hm : m < 6) (hne : v ≠ m) (hg : ∀ x, x < 384 → g x ≤ 80) : ∀ (d j : Nat) (ha : Nat → Int32), j + d = 64 → (∀ p, p < 64 → ha (64 * v + p) = nI (g (64 * v + p))) →
    ∃ ha' : Nat → Int32, (∀ x, x < 64 * m + j ∨ 64 * m + 64 ≤ x → ha' x = ha x) ∧ (∀ p, j ≤ p → p < 64 → ha' (64 * m + p) = nI (g (64 * v + p))) ∧ ∀ P : Int32 → SY → Prop, P (nI m) (fs, fh, fl, th, fr, ha', be, va, ba, lo, sV, he, sp, sh) → wY_snapshot_32 P (nI v) (nI m) fs fh fl (d + 1) (nI j) th fr ha be va ba lo sV he sp sh := by
  intro d
  induction d with
  | zero =>
    intro j ha hj hv
    obtain rfl : j = 64 := by omega
    exact ⟨ha, fun x _ => rfl, fun p h1 h2 => by omega, fun P hP => br_t (show (64 : Int32) ≤ nI 64 by decide) hP⟩
  | succ d ih =>
    intro j ha hj hA
    have g80 := hg (64 * v + j) (by omega)
    obtain ⟨ha', h1, h2, hT⟩ := ih (j + 1) (upd ha (64 * m + j) (nI (g (64 * v + j)))) (by omega) (fun p hp => by rw [pk_un (by omega)]; exact hA p hp)
    refine ⟨ha', fun x hx => ?_, fun p hp hp2 => ?_, fun P hP => ?_⟩
    · rw [h1 x (by omega), pk_un (by omega)]
    · by_cases e : p = j
      · rw [h1 _ (by omega), e, pk_us]
      · exact h2 p (by omega) hp2
    · unfold wY_snapshot_32
      rw [cw_ix2, cw_ix2, cw_cl (n := 64 * v + j) (by omega), cw_cl (n := 64 * m + j) (by omega), hA j (by omega), cw_by (by omega)]
      exact br_f (nI_ge (b := 64) (by omega) (by decide)) ⟨cw_in (by omega) (by decide), cw_in (by omega) (by decide), nm_e (nm_r (nI_1 j) (hT P hP))⟩
theorem i_vc_snapshot {k : Nat} {u : SX} {v : SY} (I : i_Rel k u v) (hk : k + 6 ≤ 3072) (v1 : Int32) (v2 : Int32) : wpX_snapshot (fun r u' => wpY_snapshot (fun r' v' => r' = r ∧ i_Rel (k + 6) u' v') v v1 (lw_bz v2)) u v1 (lw_bz v2) := by
  obtain ⟨g, s, h, l, th, wr, bk, hc, va, go, lo, sp, sv, sh, sd, fr, ha, be, ba, sV, he, rfl, rfl, hs, hh, hl, hW, hB, hH, hA, hG, hL, hS, hV⟩ := I
  unfold wpX_snapshot
  dsimp only
  have hz := lw_bz_01 v2
  generalize lw_bz v2 = z at hz
  by_cases h1 : cw_is th v1
  · obtain ⟨a, ha6, rfl, hta⟩ := h1
    refine cx_is_t ha6 hta (br_f (by decide) ?_)
    rcases cj_least (fs := nI s) (fh := nI h) (fl := nI l) (th := th) (wr := wr) (bk := bk) (hc := hc) (va := va) (go := go) (lo := lo) (sp := sp) (sv := sv) (sh := sh) (sd := sd) (fr := fr) (ha := ha) (be := be) (ba := ba) (sV := sV) (he := he) with ⟨m, hm, ht, hX, hY⟩ | ⟨hX, hY⟩
    · have hne : a ≠ m := fun e => hta (e ▸ ht)
      obtain ⟨ha1, q1, q2, hT⟩ := cy_create_t hm hY
      have eA1 : ∀ p, p < 64 → ha1 (64 * a + p) = nI (g (64 * a + p)) := fun p hp => by
        rw [q1 _ (by omega)]
        exact cw_ha_at hA ha6 hta hp
      obtain ⟨ha2, w1, w2, hT2⟩ := cy_sn32 (fs := nI s) (fh := nI h) (fl := nI l) (th := upd th m 1) (fr := upd fr m z) (be := be) (va := va) (ba := ba) (lo := lo) (sV := sV) (he := he) (sp := sp) (sh := sh) ha6 hm hne (cw_g80 hB) 64 0 ha1 rfl eA1
      obtain ⟨bk', hc', hB', hH', hTX⟩ := cx_sn48 (fs := nI s) (fh := nI h) (fl := nI l) (th := upd th m 1) (wr := upd wr m (if z = 0 then 1 else 0)) (va := va) (go := go) (lo := lo) (sp := sp) (sv := sv) (sh := sh) (sd := sd) (g := g) ha6 hm hne (cw_g80 hB) 64 0 bk hc rfl (by rw [cw_cp_0]; exact hB) (by rw [cw_cp_0]; exact hH)
      have hWz : cw_WF (upd th m 1) (upd wr m (if z = 0 then 1 else 0)) (upd fr m z) := cw_WF_up hW (by rcases hz with e | e <;> subst e <;> decide)
      have hA2 : cw_HA (upd th m 1) (cw_cp g (64 * m) (64 * a) 64) ha2 := by
        intro x hx
        by_cases e : x / 64 = m
        · rw [e, pk_us]
          refine ⟨fun q => absurd q (by decide), fun _ => ?_⟩
          have hx2 : x = 64 * m + x % 64 := by omega
          rw [hx2, w2 _ (by omega) (by omega), cw_cp_in (by omega)]
        · rw [pk_un e, w1 x (by omega), q1 x (by omega), cw_cp_out (by omega)]
          exact hA x hx
      have hYY : wpY_snapshot (fun r' v' => r' = nI m ∧ i_Rel (k + 6) (nI s, nI h, nI l, upd th m 1, upd wr m (if z = 0 then 1 else 0), bk', hc', va, go, lo, sp, sv, sh, sd) v') (nI s, nI h, nI l, th, fr, ha, be, va, ba, lo, sV, he, sp, sh) (nI a) z := by
        unfold wpY_snapshot
        dsimp only
        refine cy_is_t ha6 hta (br_f (by decide) (hT _ (br_t (nI_pos' (by omega)) ?_)))
        dsimp only
        rw [cw_cl (n := m) (by omega), cw_b01 hz, cw_upup]
        exact ⟨cw_in hm (by decide), nm_e ⟨65, hT2 _ ⟨rfl, cw_mk ⟨hs, hh, hl, hWz, hB', hH', hA2, cw_RG_cp (by omega) hG, hL, hS, hV⟩⟩⟩⟩
      refine hX _ (br_f (cw_en1 _ (by omega)) ?_)
      rw [cw_cl (n := m) (by omega), cw_b0, cw_b1]
      refine ⟨cw_in hm (by decide), nm_e ?_⟩
      by_cases e : z = 0
      · rw [if_pos e] at hTX hYY
        exact br_t e ⟨cw_in hm (by decide), nm_e ⟨65, hTX _ hYY⟩⟩
      · rw [if_neg e] at hTX hYY
        exact br_f e ⟨cw_in hm (by decide), nm_e ⟨65, hTX _ hYY⟩⟩
    · refine hX _ (br_t rfl ?_)
      unfold wpY_snapshot
      dsimp only
      exact cy_is_t ha6 hta (br_f (by decide) (cy_create_f hY (br_f (by decide) ⟨rfl, cw_mk ⟨hs, hh, hl, hW, hB, hH, hA, hG, hL, hS, hV⟩⟩)))
  · refine cx_is_f h1 (br_t rfl ?_)
    unfold wpY_snapshot
    dsimp only
    exact cy_is_f h1 (br_t rfl ⟨rfl, cw_mk ⟨hs, hh, hl, hW, hB, hH, hA, hG, hL, hS, hV⟩⟩)
/-! share -/
theorem cx_sh40 {v p n : Nat} {x3 x4 : Int32} (hv : v < 6) (hpn : p + n ≤ 64) : ∀ (d j : Nat) (sd : Nat → Int32), j + d = n → (∀ i, i < j → sd i = bk (64 * v + p + i)) →
    ∃ sd' : Nat → Int32, (∀ i, i < n → sd' i = bk (64 * v + p + i)) ∧ ∀ P : Int32 → SX → Prop, (∃ n80, wX_share_80 P x3 x4 (nI n) n80 0 0 fs fh fl th wr bk hc va go lo sp sv sh sd') → wX_share_40 P (nI v) (nI p) x3 x4 (nI n) fs fh fl (d + 1) (nI j) th wr bk hc va go lo sp sv sh sd := by
  intro d
  induction d with
  | zero =>
    intro j sd hj hi
    obtain rfl : j = n := by omega
    exact ⟨sd, hi, fun P hP => br_t (nI_le (by omega) (by omega)) hP⟩
  | succ d ih =>
    intro j sd hj hi
    obtain ⟨sd', h1, hT⟩ := ih (j + 1) (upd sd j (bk (64 * v + p + j))) (by omega) (fun i hij => by
      by_cases e : i = j
      · rw [e, pk_us]
      · rw [pk_un e]
        exact hi i (by omega))
    refine ⟨sd', h1, fun P hP => ?_⟩
    unfold wX_share_40
    rw [cw_ix1, nI_add, cw_cl (n := 64 * v + p + j) (by omega), cw_cl (n := j) (by omega)]
    exact br_f (nI_ge (by omega) (by omega)) ⟨cw_in (by omega) (by decide), cw_in (by omega) (by decide), nm_e (nm_r (nI_1 j) (hT P hP))⟩
theorem cy_sh56 {g : Nat → Nat} {v p n : Nat} {x3 x4 : Int32} (hv : v < 6) (ht : ¬ th v = 0) (hpn : p + n ≤ 64) (hg : ∀ x, x < 384 → g x ≤ 80) (hA : cw_HA th g ha) : ∀ (d j : Nat) (be : Nat → Int32), j + d = n → (∀ i, i < j → be i = nI (g (64 * v + p + i))) →
    ∃ be' : Nat → Int32, (∀ i, i < n → be' i = nI (g (64 * v + p + i))) ∧ ∀ P : Int32 → SY → Prop, (∃ n96, wY_share_96 P x3 x4 (nI n) fs fh fl n96 0 0 th fr ha be' va ba lo sV he sp sh) → wY_share_56 P (nI v) (nI p) x3 x4 (nI n) fs fh fl (d + 1) (nI j) th fr ha be va ba lo sV he sp sh := by
  intro d
  induction d with
  | zero =>
    intro j be hj hi
    obtain rfl : j = n := by omega
    exact ⟨be, hi, fun P hP => br_t (nI_le (by omega) (by omega)) hP⟩
  | succ d ih =>
    intro j be hj hi
    have g80 := hg (64 * v + p + j) (by omega)
    have eA := cw_ha_at hA hv ht (p := p + j) (by omega)
    rw [← Nat.add_assoc] at eA
    obtain ⟨be', h1, hT⟩ := ih (j + 1) (upd be j (nI (g (64 * v + p + j)))) (by omega) (fun i hij => by
      by_cases e : i = j
      · rw [e, pk_us]
      · rw [pk_un e]
        exact hi i (by omega))
    refine ⟨be', h1, fun P hP => ?_⟩
    unfold wY_share_56
    rw [cw_ix2, nI_add, cw_cl (n := 64 * v + p + j) (by omega), cw_cl (n := j) (by omega), eA, cw_by (by omega)]
    exact br_f (nI_ge (by omega) (by omega)) ⟨cw_in (by omega) (by decide), cw_in (by omega) (by decide), nm_e (nm_r (nI_1 j) (hT P hP))⟩
theorem cj_sh80 {g : Nat → Nat} {S w q n : Nat} (hw : w < 6) (ht : ¬ th w = 0) (hqn : q + n ≤ 64) (hS : S + n ≤ 384) (hg : ∀ x, x < 384 → g x ≤ 80) (hsd : ∀ i, i < n → sd i = nI (g (S + i)) - 1) (hbe : ∀ i, i < n → be i = nI (g (S + i))) :
    ∀ (d j : Nat) (c : Int32) (bk hc ha : Nat → Int32), j + d = n → cw_BK (cw_cp g (64 * w + q) S j) bk → cw_HC (cw_cp g (64 * w + q) S j) hc → cw_HA th (cw_cp g (64 * w + q) S j) ha →
    ∃ (r : Int32) (bk' hc' ha' : Nat → Int32), cw_BK (cw_cp g (64 * w + q) S n) bk' ∧ cw_HC (cw_cp g (64 * w + q) S n) hc' ∧ cw_HA th (cw_cp g (64 * w + q) S n) ha' ∧
      (∀ P : Int32 → SX → Prop, P r (fs, fh, fl, th, wr, bk', hc', va, go, lo, sp, sv, sh, sd) → wX_share_80 P (nI w) (nI q) (nI n) (d + 1) c (nI j) fs fh fl th wr bk hc va go lo sp sv sh sd) ∧
      (∀ P : Int32 → SY → Prop, P r (fs, fh, fl, th, fr, ha', be, va, ba, lo, sV, he, sp, sh) → wY_share_96 P (nI w) (nI q) (nI n) fs fh fl (d + 1) c (nI j) th fr ha be va ba lo sV he sp sh) := by
  intro d
  induction d with
  | zero =>
    intro j c bk hc ha hj hB hH hA
    obtain rfl : j = n := by omega
    have hle : nI j ≤ nI j := nI_le (by omega) (by omega)
    exact ⟨c, bk, hc, ha, hB, hH, hA, fun P hP => br_t hle hP, fun P hP => br_t hle hP⟩
  | succ d ih =>
    intro j c bk hc ha hj hB hH hA
    have hx : 64 * w + q + j < 384 := by omega
    have hlt : ¬ nI n ≤ nI j := nI_ge (by omega) (by omega)
    have i1 : vp_in (nI (64 * w + q + j)) 384 := cw_in hx (by decide)
    have i2 : vp_in (nI j) 64 := cw_in (by omega) (by decide)
    have gD := hg (64 * w + q + j) hx
    have gS := hg (S + j) (by omega)
    have eB := (hB (64 * w + q + j) hx).2
    rw [cw_cp_at] at eB
    have eA := cw_ha_at hA hw ht (p := q + j) (by omega)
    rw [← Nat.add_assoc, cw_cp_at] at eA
    have hA1 := cw_HA_up (v := w) (p := q + j) (e := g (S + j)) ht (by omega) hA
    rw [← Nat.add_assoc, ← cw_cp_s] at hA1
    unfold wX_share_80 wY_share_96 wY_share_131
    rw [cw_ix1, cw_ix2, nI_add (64 * w + q) j, nI_add q j, cw_cl (n := 64 * w + q + j) (by omega), cw_cl (n := j) (by omega), eB, eA, hsd j (by omega), hbe j (by omega), cw_eq (by omega) (by omega), nI_eq (by omega) (by omega), cw_by (by omega)]
    by_cases e : g (64 * w + q + j) = g (S + j)
    · have ecp : cw_cp g (64 * w + q) S (j + 1) = cw_cp g (64 * w + q) S j := by
        rw [cw_cp_s, ← e, ← cw_cp_at g (64 * w + q) S j, cw_up_same]
      obtain ⟨r, bk', hc', ha', hB', hH', hA', hX, hY⟩ := ih (j + 1) c bk hc _ (by omega) (by rw [ecp]; exact hB) (by rw [ecp]; exact hH) hA1
      exact ⟨r, bk', hc', ha', hB', hH', hA', fun P hP => br_f hlt ⟨i1, i2, br_t e (nm_r (nI_1 j) (hX P hP))⟩, fun P hP => br_f hlt ⟨i1, i2, br_t e ⟨i2, i1, nm_e (nm_r (nI_1 j) (hY P hP))⟩⟩⟩
    · obtain ⟨bk1, hc1, hB1, hH1, hT1⟩ := cx_put (fs := fs) (fh := fh) (fl := fl) (th := th) (wr := wr) (va := va) (go := go) (lo := lo) (sp := sp) (sv := sv) (sh := sh) (sd := sd) (p := q + j) (e := g (S + j)) hw (by omega) gS hB hH
      rw [← Nat.add_assoc, ← cw_cp_s] at hB1 hH1
      obtain ⟨r, bk', hc', ha', hB', hH', hA', hX, hY⟩ := ih (j + 1) (c + 1) bk1 hc1 _ (by omega) hB1 hH1 hA1
      exact ⟨r, bk', hc', ha', hB', hH', hA', fun P hP => br_f hlt ⟨i1, i2, br_f e (nm_e ⟨i2, hT1 _ (nm_r (nI_1 j) (hX P hP))⟩)⟩, fun P hP => br_f hlt ⟨i1, i2, br_f e (nm_e ⟨i2, i1, nm_e (nm_r (nI_1 j) (hY P hP))⟩)⟩⟩
theorem i_vc_share {k : Nat} {u : SX} {v : SY} (I : i_Rel k u v) (hk : k + 6 ≤ 3072) (v1 : Int32) (v2 : Int32) (v3 : Int32) (v4 : Int32) (v5 : Int32) : wpX_share (fun r u' => wpY_share (fun r' v' => r' = r ∧ i_Rel (k + 6) u' v') v v1 v2 v3 v4 v5) u v1 v2 v3 v4 v5 := by
  obtain ⟨g, s, h, l, th, wr, bk, hc, va, go, lo, sp, sv, sh, sd, fr, ha, be, ba, sV, he, rfl, rfl, hs, hh, hl, hW, hB, hH, hA, hG, hL, hS, hV⟩ := I
  unfold wpX_share wpY_share
  dsimp only
  by_cases h1 : cw_is th v1
  · obtain ⟨a, ha6, rfl, hta⟩ := h1
    refine cx_is_t ha6 hta (br_f (by decide) ?_)
    by_cases h2 : cw_wr th wr v3
    · obtain ⟨w, hw6, rfl, htw, hww⟩ := h2
      have hfw : fr w = 0 := Classical.byContradiction fun z => hww ((hW w hw6 htw).mpr z)
      refine cx_wr_t hw6 htw hww (br_f (by decide) ?_)
      by_cases h3 : cw_lt 65 v5
      · obtain ⟨n, hn, rfl⟩ := h3
        have e65 : 65 - nI n = nI (65 - n) := pk_sub (a := 65) (by omega)
        rw [e65]
        by_cases h4 : cw_lt (65 - n) v2
        · obtain ⟨p, hp, rfl⟩ := h4
          refine cx_range_t (by omega) hp (br_f (by decide) ?_)
          by_cases h5 : cw_lt (65 - n) v4
          · obtain ⟨q, hq, rfl⟩ := h5
            refine cx_range_t (by omega) hq (br_f (by decide) ?_)
            obtain ⟨sd', hsd, hX1⟩ := cx_sh40 (fs := nI s) (fh := nI h) (fl := nI l) (th := th) (wr := wr) (bk := bk) (hc := hc) (va := va) (go := go) (lo := lo) (sp := sp) (sv := sv) (sh := sh) (v := a) (p := p) (n := n) (x3 := nI w) (x4 := nI q) ha6 (by omega) n 0 sd (by omega) (fun i hi => absurd hi (Nat.not_lt_zero i))
            obtain ⟨be', hbe, hY1⟩ := cy_sh56 (fs := nI s) (fh := nI h) (fl := nI l) (fr := fr) (va := va) (ba := ba) (lo := lo) (sV := sV) (he := he) (sp := sp) (sh := sh) (v := a) (p := p) (n := n) (x3 := nI w) (x4 := nI q) ha6 hta (by omega) (cw_g80 hB) hA n 0 be (by omega) (fun i hi => absurd hi (Nat.not_lt_zero i))
            obtain ⟨r, bk', hc', ha', hB', hH', hA', hX2, hY2⟩ := cj_sh80 (fs := nI s) (fh := nI h) (fl := nI l) (wr := wr) (va := va) (go := go) (lo := lo) (sp := sp) (sv := sv) (sh := sh) (fr := fr) (ba := ba) (sV := sV) (he := he) (g := g) (sd := sd') (be := be') (S := 64 * a + p) (w := w) (q := q) (n := n) hw6 htw (by omega) (by omega) (cw_g80 hB) (fun i hi => by rw [hsd i hi, (hB _ (by omega)).2]) hbe n 0 0 bk hc ha (by omega) (by rw [cw_cp_0]; exact hB) (by rw [cw_cp_0]; exact hH) (by rw [cw_cp_0]; exact hA)
            refine ⟨n + 1, hX1 _ ⟨n + 1, hX2 _ ?_⟩⟩
            exact cy_is_t ha6 hta (br_f (by decide) (cy_wr_t hw6 htw hfw (br_f (by decide) (cy_out_t (n := 65) hn (by decide) (br_t rfl (cy_out_t hp (by omega) (br_t rfl (cy_out_t hq (by omega) (br_t rfl ⟨n + 1, hY1 _ ⟨n + 1, hY2 _ ⟨rfl, cw_mk ⟨hs, hh, hl, hW, hB', hH', hA', cw_RG_cp (by omega) hG, hL, hS, hV⟩⟩⟩⟩)))))))))
          · exact cx_range_f2 (by omega) h5 (br_t rfl (cy_is_t ha6 hta (br_f (by decide) (cy_wr_t hw6 htw hfw (br_f (by decide) (cy_out_t (n := 65) hn (by decide) (br_t rfl (cy_out_t hp (by omega) (br_t rfl (cy_out_f h5 (by omega) (br_f (by decide) ⟨rfl, cw_mk ⟨hs, hh, hl, hW, hB, hH, hA, hG, hL, hS, hV⟩⟩)))))))))))
        · exact cx_range_f2 (by omega) h4 (br_t rfl (cy_is_t ha6 hta (br_f (by decide) (cy_wr_t hw6 htw hfw (br_f (by decide) (cy_out_t (n := 65) hn (by decide) (br_t rfl (cy_out_f h4 (by omega) (br_f (by decide) ⟨rfl, cw_mk ⟨hs, hh, hl, hW, hB, hH, hA, hG, hL, hS, hV⟩⟩)))))))))
      · exact cx_range_f1 h3 (br_t rfl (cy_is_t ha6 hta (br_f (by decide) (cy_wr_t hw6 htw hfw (br_f (by decide) (cy_out_f (n := 65) h3 (by decide) (br_f (by decide) ⟨rfl, cw_mk ⟨hs, hh, hl, hW, hB, hH, hA, hG, hL, hS, hV⟩⟩)))))))
    · exact cx_wr_f h2 (br_t rfl (cy_is_t ha6 hta (br_f (by decide) (cy_wr_f (fun z => h2 ((cw_wrf hW v3).mpr z)) (br_t rfl ⟨rfl, cw_mk ⟨hs, hh, hl, hW, hB, hH, hA, hG, hL, hS, hV⟩⟩)))))
  · exact cx_is_f h1 (br_t rfl (cy_is_f h1 (br_t rfl ⟨rfl, cw_mk ⟨hs, hh, hl, hW, hB, hH, hA, hG, hL, hS, hV⟩⟩)))
end
