section
variable {fs fh fl : Int32} {th wr bk hc va go lo sp sv sh sd fr ha be ba sV he : Nat → Int32}
theorem cw_nbr (x : Int32) : ¬ x.toInt64 = 1000000000001 := by
  intro h
  have h1 := congrArg Int64.toInt h
  rw [Int32.toInt_toInt64] at h1
  have h2 := Int32.toInt_lt x
  have e : (1000000000001 : Int64).toInt = 1000000000001 := by decide
  omega
theorem cw_back (x : Int32) : x.toInt64.toInt32 = x := by simp
theorem cj_oth {g : Nat → Nat} {p : Nat} (x2 : Int32) (hp : p < 64) (hB : cw_BK g bk) (hA : cw_HA th g ha) : ∃ c : Nat, c ≤ 80 ∧
    (∀ (fs fh fl : Int32) (wr hc va go lo sp sv sh sd : Nat → Int32) (P : Int32 → Prop), P (nI c - 1) → wpX_blockOrEmpty P (fs, fh, fl, th, wr, bk, hc, va, go, lo, sp, sv, sh, sd) x2 (nI p)) ∧
    (∀ (fs fh fl : Int32) (fr be va ba lo sV he sp sh : Nat → Int32) (P : Int32 → Prop), P (nI c - 1) → wpY_blockAt P (fs, fh, fl, th, fr, ha, be, va, ba, lo, sV, he, sp, sh) x2 (nI p)) := by
  by_cases h : cw_is th x2
  · obtain ⟨w, hw, rfl, ht⟩ := h
    obtain ⟨g80, eB⟩ := hB (64 * w + p) (by omega)
    have eA := cw_ha_at hA hw ht hp
    exact ⟨g (64 * w + p), g80, fun _ _ _ _ _ _ _ _ _ _ _ _ P hP => cx_boe_t hw ht hp (by rw [eB]; exact hP), fun _ _ _ _ _ _ _ _ _ _ _ _ P hP => cy_bat_t hw ht hp (by rw [eA]; exact hP)⟩
  · refine ⟨0, by omega, fun _ _ _ _ _ _ _ _ _ _ _ _ P hP => cx_boe_f (fun z => h z.1) ?_, fun _ _ _ _ _ _ _ _ _ _ _ _ P hP => cy_bat_f (fun z => h z.1) ?_⟩
    · rw [cw_em1] at hP
      exact hP
    · rw [cw_em1] at hP
      exact hP
theorem cx_app46 {l : Nat} {x z : Int32} (hl : l < 64) (hz : z = 0 ∨ z = 1) {P : Int32 → SX → Prop} (hP : P 1 (fs, fh, nI (l + 1), th, wr, bk, hc, va, go, lo, upd sp l x, sv, upd sh l z, sd)) : wX_appendEntry_46 P x z fs fh (nI l) th wr bk hc va go lo sp sv sh sd := by
  unfold wX_appendEntry_46
  rw [cw_cl (n := l) (by omega), cw_b01 hz]
  exact ⟨cw_in hl (by decide), nm_e ⟨cw_in hl (by decide), nm_e (nm_r (nI_1 l) hP)⟩⟩
theorem cx_app_e {l : Nat} {x : Int32} (hl : l < 64) {P : Int32 → SX → Prop} (hP : P 1 (fs, fh, nI (l + 1), th, wr, bk, hc, va, go, lo, upd sp l x, sv, upd sh l 0, sd)) : wpX_appendEntry P (fs, fh, nI l, th, wr, bk, hc, va, go, lo, sp, sv, sh, sd) x (-1) := by
  unfold wpX_appendEntry wX_appendEntry_10
  dsimp only
  exact br_t rfl (br_t rfl (cx_app46 hl (Or.inl rfl) hP))
theorem cx_app_b {l b h' r : Nat} {x : Int32} {go' : Nat → Int32} (hb : b < 80) (hX : ∀ P : Int32 → SX → Prop, P (nI r) (fs, nI h', nI l, th, wr, bk, hc, va, go', lo, sp, sv, sh, sd) → wpX_lookAt P (fs, fh, nI l, th, wr, bk, hc, va, go, lo, sp, sv, sh, sd) (nI b)) (h0 : go' b = 0) (h1 : go' (80 + b) = 0) {P : Int32 → SX → Prop} (hP : P 0 (fs, nI h', nI l, th, wr, bk, hc, va, go', lo, sp, sv, sh, sd)) : wpX_appendEntry P (fs, fh, nI l, th, wr, bk, hc, va, go, lo, sp, sv, sh, sd) x (nI b) := by
  unfold wpX_appendEntry wX_appendEntry_10
  dsimp only
  exact br_f (cw_en1 _ (by omega)) (br_f (by decide) (hX _ (cx_broken_t hb h0 h1 (br_f (by decide) hP))))
theorem cx_app_v {l b h' r : Nat} {x : Int32} {go' : Nat → Int32} (hl : l < 64) (hb : b < 80) (hX : ∀ P : Int32 → SX → Prop, P (nI r) (fs, nI h', nI l, th, wr, bk, hc, va, go', lo, sp, sv, sh, sd) → wpX_lookAt P (fs, fh, nI l, th, wr, bk, hc, va, go, lo, sp, sv, sh, sd) (nI b)) (h01 : ¬ (go' b = 0 ∧ go' (80 + b) = 0)) {P : Int32 → SX → Prop} (hP : P 1 (fs, nI h', nI (l + 1), th, wr, bk, hc, va, go', lo, upd sp l x, upd sv l (va b), upd sh l 1, sd)) : wpX_appendEntry P (fs, fh, nI l, th, wr, bk, hc, va, go, lo, sp, sv, sh, sd) x (nI b) := by
  unfold wpX_appendEntry wX_appendEntry_10
  dsimp only
  refine br_f (cw_en1 _ (by omega)) (br_f (by decide) (hX _ (cx_broken_f hb h01 (br_t rfl ⟨cw_in hb (by decide), cw_in hl (by decide), ?_⟩))))
  dsimp only
  rw [cw_cl (n := l) (by omega), cw_cl (n := b) (by omega)]
  exact nm_e (cx_app46 hl (Or.inr rfl) hP)
theorem cy_s79_b {P : Int32 → SY → Prop} {J : Int32 → Int32 → Int32 → Int32 → (Nat → Int32) → (Nat → Int32) → (Nat → Int32) → (Nat → Int32) → (Nat → Int32) → (Nat → Int32) → (Nat → Int32) → (Nat → Int32) → (Nat → Int32) → (Nat → Int32) → (Nat → Int32) → Prop} {x1 x2 x3 x4 : Int32} (hP : P ((-3) - x3) (fs, fh, nI 0, th, fr, ha, be, va, ba, lo, sV, he, sp, sh)) : wY_send_79 P J x1 x2 x3 x4 1000000000001 fs fh fl th fr ha be va ba lo sV he sp sh := by
  unfold wY_send_79
  exact br_t rfl hP
theorem cy_s79_e {P : Int32 → SY → Prop} {J : Int32 → Int32 → Int32 → Int32 → (Nat → Int32) → (Nat → Int32) → (Nat → Int32) → (Nat → Int32) → (Nat → Int32) → (Nat → Int32) → (Nat → Int32) → (Nat → Int32) → (Nat → Int32) → (Nat → Int32) → (Nat → Int32) → Prop} {x1 x2 : Int32} {j l : Nat} (hj : j < 64) (hl : l < 64) (hJ : J (nI (j + 1)) fs fh (nI (l + 1)) th fr ha be va ba lo (upd sV l 0) he (upd sp l (nI j)) (upd sh l 0)) : wY_send_79 P J x1 x2 (nI j) (nI 0 - 1) 1000000000000 fs fh (nI l) th fr ha be va ba lo sV he sp sh := by
  unfold wY_send_79 wY_send_129
  rw [cw_cl (n := l) (by omega), cw_by2 (by omega), cw_b0]
  have hi : vp_in (nI l) 64 := cw_in hl (by decide)
  exact br_f (by decide) ⟨hi, nm_e (br_t (by decide) ⟨hi, nm_e (nm_r (nI_1 l) (br_f (by decide) ⟨hi, nm_e (nm_r (nI_1 j) hJ)⟩))⟩)⟩
theorem cy_s79_v {P : Int32 → SY → Prop} {J : Int32 → Int32 → Int32 → Int32 → (Nat → Int32) → (Nat → Int32) → (Nat → Int32) → (Nat → Int32) → (Nat → Int32) → (Nat → Int32) → (Nat → Int32) → (Nat → Int32) → (Nat → Int32) → (Nat → Int32) → (Nat → Int32) → Prop} {x1 x2 : Int32} {j l b : Nat} (hj : j < 64) (hl : l < 64) (hb : b < 80) (hJ : J (nI (j + 1)) fs fh (nI (l + 1)) th fr ha be va ba lo (upd sV l (va b)) he (upd sp l (nI j)) (upd sh l 1)) : wY_send_79 P J x1 x2 (nI j) (nI b) (va b).toInt64 fs fh (nI l) th fr ha be va ba lo sV he sp sh := by
  unfold wY_send_79 wY_send_129
  rw [cw_cl (n := l) (by omega), cw_by2 (by omega), cw_b1, cw_back]
  have hi : vp_in (nI l) 64 := cw_in hl (by decide)
  exact br_f (cw_nbr _) ⟨hi, nm_e (br_f (nI_pos (by omega)) ⟨hi, nm_e (nm_r (nI_1 l) (br_t (nI_pos' (by omega)) ⟨hi, nm_e (nm_r (nI_1 j) hJ)⟩))⟩)⟩
theorem cj_send30 {g : Nat → Nat} {v : Nat} {x2 : Int32} (hv : v < 6) (ht : ¬ th v = 0) (hB : cw_BK g bk) (hA : cw_HA th g ha) : ∀ (d j l h : Nat) (go ba sp sv sV sh : Nat → Int32), j + d = 64 → l ≤ j → h < 1000000 → cw_RG g go ba → (∀ k, ∃ p, p < 64 ∧ sp k = nI p) → (∀ k, ¬ sh k = 0 → sv k = sV k) →
    ∃ (r : Int32) (l' h' : Nat) (go' ba' sp' sv' sV' sh' : Nat → Int32), l' ≤ 64 ∧ h' < 1000000 ∧ cw_RG g go' ba' ∧ (∀ k, ∃ p, p < 64 ∧ sp' k = nI p) ∧ (∀ k, ¬ sh' k = 0 → sv' k = sV' k) ∧
      (∀ P : Int32 → SX → Prop, P r (fs, nI h', nI l', th, wr, bk, hc, va, go', lo, sp', sv', sh', sd) → wX_send_30 P (nI v) x2 (d + 1) (nI j) fs (nI h) (nI l) th wr bk hc va go lo sp sv sh sd) ∧
      (∀ P : Int32 → SY → Prop, P r (fs, nI h', nI l', th, fr, ha, be, va, ba', lo, sV', he, sp', sh') → wY_send_30 P (nI v) x2 (d + 1) (nI j) fs (nI h) (nI l) th fr ha be va ba lo sV he sp sh) := by
  intro d
  induction d with
  | zero =>
    intro j l h go ba sp sv sV sh hj hl hh hR hS hV
    obtain rfl : j = 64 := by omega
    have hle : (64 : Int32) ≤ nI 64 := by decide
    exact ⟨nI l, l, h, go, ba, sp, sv, sV, sh, hl, hh, hR, hS, hV, fun P hP => br_t hle hP, fun P hP => br_t hle hP⟩
  | succ d ih =>
    intro j l h go ba sp sv sV sh hj hl hh hR hS hV
    have hj64 : j < 64 := by omega
    have hl64 : l < 64 := by omega
    have hx : 64 * v + j < 384 := by omega
    have hlt : ¬ (64 : Int32) ≤ nI j := nI_ge (b := 64) (by omega) (by decide)
    have i1 : vp_in (nI (64 * v + j)) 384 := cw_in hx (by decide)
    obtain ⟨g80, eB⟩ := hB (64 * v + j) hx
    have eA := cw_ha_at hA hv ht hj64
    obtain ⟨c, hc80, hoX, hoY⟩ := cj_oth x2 hj64 hB hA
    have hS' : ∀ k, ∃ p, p < 64 ∧ upd sp l (nI j) k = nI p := fun k => by
      by_cases e : k = l
      · exact ⟨j, hj64, by rw [e, pk_us]⟩
      · rw [pk_un e]
        exact hS k
    have hcmp : nI (g (64 * v + j)) - 1 = nI c - 1 ↔ g (64 * v + j) = c := cw_eq (by omega) (by omega)
    unfold wX_send_30 wY_send_30
    rw [cw_ix1, cw_cl (n := 64 * v + j) (by omega), eB]
    by_cases e : g (64 * v + j) = c
    · obtain ⟨r, l', h', go', ba', sp', sv', sV', sh', q1, q2, q3, q4, q5, hX, hY⟩ := ih (j + 1) l h go ba sp sv sV sh (by omega) (by omega) hh hR hS hV
      refine ⟨r, l', h', go', ba', sp', sv', sV', sh', q1, q2, q3, q4, q5, fun P hP => br_f hlt ⟨i1, nm_e (hoX _ _ _ _ _ _ _ _ _ _ _ _ _ (br_t (hcmp.mpr e) (nm_r (nI_1 j) (hX P hP))))⟩, fun P hP => br_f hlt (cy_bat_t hv ht hj64 ?_)⟩
      rw [eA]
      exact hoY _ _ _ _ _ _ _ _ _ _ _ _ _ (br_t (hcmp.mpr e) (nm_r (nI_1 j) (hY P hP)))
    · have hne : ¬ nI (g (64 * v + j)) - 1 = nI c - 1 := fun z => e (hcmp.mp z)
      by_cases h0 : g (64 * v + j) = 0
      · obtain ⟨r, l', h', go', ba', sp', sv', sV', sh', q1, q2, q3, q4, q5, hX, hY⟩ := ih (j + 1) (l + 1) h go ba (upd sp l (nI j)) sv (upd sV l 0) (upd sh l 0) (by omega) (by omega) hh hR hS' (fun k hk => by
          by_cases q : k = l
          · rw [q, pk_us] at hk
            exact absurd rfl hk
          · rw [pk_un q] at hk ⊢
            exact hV k hk)
        refine ⟨r, l', h', go', ba', sp', sv', sV', sh', q1, q2, q3, q4, q5, fun P hP => br_f hlt ⟨i1, nm_e (hoX _ _ _ _ _ _ _ _ _ _ _ _ _ (br_f hne ?_))⟩, fun P hP => br_f hlt (cy_bat_t hv ht hj64 ?_)⟩
        · rw [h0, cw_em1]
          exact cx_app_e hl64 (br_f (by decide) (nm_r (nI_1 j) (hX P hP)))
        · rw [eA]
          refine hoY _ _ _ _ _ _ _ _ _ _ _ _ _ (br_f hne ?_)
          rw [h0]
          exact br_f (by decide) (cy_s79_e hj64 hl64 (hY P hP))
      · obtain ⟨b, eb⟩ : ∃ b, g (64 * v + j) = b + 1 := ⟨g (64 * v + j) - 1, by omega⟩
        have hb : b < 80 := by omega
        obtain ⟨G0, G1⟩ := hR b hb (cw_used hx eb)
        obtain ⟨rr, h1, go1, ba1, y, hh1, hn1, G0', G1', hy, _, hXl, hYl⟩ := cj_look (fs := fs) (fl := nI l) (th := th) (wr := wr) (bk := bk) (hc := hc) (va := va) (go := go) (lo := lo) (sp := sp) (sv := sv) (sh := sh) (sd := sd) (fr := fr) (ha := ha) (be := be) (ba := ba) (sV := sV) (he := he) hb hh G0 G1
        have hR1 := cw_RG_look hb hR hn1 G0' G1'
        rw [eb, cw_p1] at hne eB ⊢
        rcases hy with ⟨y0, y1, ey⟩ | ⟨y01, ey⟩
        · refine ⟨(-3) - nI j, 0, h1, go1, ba1, sp, sv, sV, sh, by omega, hh1, hR1, hS, hV, fun P hP => br_f hlt ⟨i1, nm_e (hoX _ _ _ _ _ _ _ _ _ _ _ _ _ (br_f hne (cx_app_b hb hXl y0 y1 (br_t rfl hP))))⟩, fun P hP => br_f hlt (cy_bat_t hv ht hj64 ?_)⟩
          rw [eA, eb, cw_p1]
          refine hoY _ _ _ _ _ _ _ _ _ _ _ _ _ (br_f hne (br_t (nI_pos' (by omega)) (hYl _ ?_)))
          rw [ey]
          exact cy_s79_b hP
        · obtain ⟨r, l', h', go', ba', sp', sv', sV', sh', q1, q2, q3, q4, q5, hX, hY⟩ := ih (j + 1) (l + 1) h1 go1 ba1 (upd sp l (nI j)) (upd sv l (va b)) (upd sV l (va b)) (upd sh l 1) (by omega) (by omega) hh1 hR1 hS' (fun k hk => by
            by_cases q : k = l
            · rw [q, pk_us, pk_us]
            · rw [pk_un q] at hk ⊢
              rw [pk_un q]
              exact hV k hk)
          refine ⟨r, l', h', go', ba', sp', sv', sV', sh', q1, q2, q3, q4, q5, fun P hP => br_f hlt ⟨i1, nm_e (hoX _ _ _ _ _ _ _ _ _ _ _ _ _ (br_f hne (cx_app_v hl64 hb hXl y01 (br_f (by decide) (nm_r (nI_1 j) (hX P hP))))))⟩, fun P hP => br_f hlt (cy_bat_t hv ht hj64 ?_)⟩
          rw [eA, eb, cw_p1]
          refine hoY _ _ _ _ _ _ _ _ _ _ _ _ _ (br_f hne (br_t (nI_pos' (by omega)) (hYl _ ?_)))
          rw [ey]
          exact cy_s79_v hj64 hl64 hb (hY P hP)
theorem i_vc_send {k : Nat} {u : SX} {v : SY} (I : i_Rel k u v) (hk : k + 6 ≤ 3072) (v1 : Int32) (v2 : Int32) : wpX_send (fun r u' => wpY_send (fun r' v' => r' = r ∧ i_Rel (k + 6) u' v') v v1 v2) u v1 v2 := by
  obtain ⟨g, s, h, l, th, wr, bk, hc, va, go, lo, sp, sv, sh, sd, fr, ha, be, ba, sV, he, rfl, rfl, hs, hh, hl, hW, hB, hH, hA, hG, hL, hS, hV⟩ := I
  unfold wpX_send wpY_send
  dsimp only
  by_cases h1 : cw_is th v1
  · obtain ⟨a, ha6, rfl, hta⟩ := h1
    obtain ⟨r, l', h', go', ba', sp', sv', sV', sh', q1, q2, q3, q4, q5, hX, hY⟩ := cj_send30 (fs := nI s) (wr := wr) (hc := hc) (va := va) (lo := lo) (sd := sd) (fr := fr) (be := be) (he := he) (x2 := v2) ha6 hta hB hA 64 0 0 h go ba sp sv sV sh rfl (by omega) hh hG hS hV
    refine cx_is_t ha6 hta (br_f (by decide) ?_)
    by_cases h2 : v2 = -1
    · exact br_t h2 ⟨65, hX _ (cy_is_t ha6 hta (br_f (by decide) (br_t h2 ⟨65, hY _ ⟨rfl, cw_mk ⟨hs, q2, q1, hW, hB, hH, hA, q3, hL, q4, q5⟩⟩⟩)))⟩
    · refine br_f h2 ?_
      by_cases h3 : cw_is th v2
      · obtain ⟨b, hb6, rfl, htb⟩ := h3
        exact cx_is_t hb6 htb (br_f (by decide) ⟨65, hX _ (cy_is_t ha6 hta (br_f (by decide) (br_f h2 (cy_is_t hb6 htb (br_f (by decide) ⟨65, hY _ ⟨rfl, cw_mk ⟨hs, q2, q1, hW, hB, hH, hA, q3, hL, q4, q5⟩⟩⟩)))))⟩)
      · exact cx_is_f h3 (br_t rfl (cy_is_t ha6 hta (br_f (by decide) (br_f h2 (cy_is_f h3 (br_t rfl ⟨rfl, cw_mk ⟨hs, hh, hl, hW, hB, hH, hA, hG, hL, hS, hV⟩⟩))))))
  · exact cx_is_f h1 (br_t rfl (cy_is_f h1 (br_t rfl ⟨rfl, cw_mk ⟨hs, hh, hl, hW, hB, hH, hA, hG, hL, hS, hV⟩⟩)))
end
