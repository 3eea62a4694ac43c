section
variable {fs fh fl : Int32} {th wr bk hc va go lo sp sv sh sd fr ha be ba sV he : Nat → Int32}
theorem cx_l34_t {b d i h : Nat} (hb : b < 80) (hd : d < 2) (hi : 80 * d + b = i) (hh : h < 1000000) (hl : lo d = 0) {P : Int32 → SX → Prop} (hP : P 1 (fs, nI ((h + 1) % 1000000), fl, th, wr, bk, hc, va, upd go i 1, lo, sp, sv, sh, sd)) : wX_lookAt_34 P (nI b) (nI d) fs (nI h) fl th wr bk hc va go lo sp sv sh sd := by
  unfold wX_lookAt_34
  rw [cw_ix3, hi, cw_cl (n := d) (by omega), cw_cl (n := i) (by omega), cw_b1]
  refine ⟨cw_in hd (by decide), br_t hl ⟨cw_in (by omega) (by decide), nm_e ⟨by decide, nm_r ?_ hP⟩⟩⟩
  rw [nI_1]
  exact pk_rem (a := h + 1) (d := 1000000) (by omega) (by decide) (by decide)
theorem cx_l34_f {b d : Nat} (hd : d < 2) (hl : ¬ lo d = 0) {P : Int32 → SX → Prop} (hP : P 0 (fs, fh, fl, th, wr, bk, hc, va, go, lo, sp, sv, sh, sd)) : wX_lookAt_34 P (nI b) (nI d) fs fh fl th wr bk hc va go lo sp sv sh sd := by
  unfold wX_lookAt_34
  rw [cw_cl (n := d) (by omega)]
  exact ⟨cw_in hd (by decide), br_f hl hP⟩
theorem cx_look_e {b : Nat} (hb : b < 80) (h : go b = go (80 + b)) {P : Int32 → SX → Prop} (hP : P 0 (fs, fh, fl, th, wr, bk, hc, va, go, lo, sp, sv, sh, sd)) : wpX_lookAt P (fs, fh, fl, th, wr, bk, hc, va, go, lo, sp, sv, sh, sd) (nI b) := by
  unfold wpX_lookAt
  dsimp only
  rw [cw_ix5, cw_cl (n := b) (by omega), cw_cl (n := 80 + b) (by omega)]
  exact ⟨cw_in (by omega) (by decide), cw_in (by omega) (by decide), br_t h hP⟩
theorem cx_look_0 {b : Nat} (hb : b < 80) (h0 : go b = 0) (h1 : go (80 + b) = 1) {P : Int32 → SX → Prop} (hP : wX_lookAt_34 P (nI b) (nI 0) fs fh fl th wr bk hc va go lo sp sv sh sd) : wpX_lookAt P (fs, fh, fl, th, wr, bk, hc, va, go, lo, sp, sv, sh, sd) (nI b) := by
  unfold wpX_lookAt
  dsimp only
  rw [cw_ix5, cw_cl (n := b) (by omega), cw_cl (n := 80 + b) (by omega)]
  exact ⟨cw_in (by omega) (by decide), cw_in (by omega) (by decide), br_f (by rw [h0, h1]; decide) ⟨cw_in (by omega) (by decide), br_t h0 hP⟩⟩
theorem cx_look_1 {b : Nat} (hb : b < 80) (h0 : go b = 1) (h1 : go (80 + b) = 0) {P : Int32 → SX → Prop} (hP : wX_lookAt_34 P (nI b) (nI 1) fs fh fl th wr bk hc va go lo sp sv sh sd) : wpX_lookAt P (fs, fh, fl, th, wr, bk, hc, va, go, lo, sp, sv, sh, sd) (nI b) := by
  unfold wpX_lookAt
  dsimp only
  rw [cw_ix5, cw_cl (n := b) (by omega), cw_cl (n := 80 + b) (by omega)]
  exact ⟨cw_in (by omega) (by decide), cw_in (by omega) (by decide), br_f (by rw [h0, h1]; decide) ⟨cw_in (by omega) (by decide), br_f (by rw [h0]; decide) hP⟩⟩
theorem cy_l_end {b h n : Nat} (hb : b < 80) (hh : h ≤ 1000000) {P : Int64 → SY → Prop} (hP : P (va b).toInt64 (fs, nI (h % 1000000), fl, th, fr, ha, be, va, ba, lo, sV, he, sp, sh)) : wY_look_27 P (nI b) fs fl (n + 1) (nI 2) (nI h) th fr ha be va ba lo sV he sp sh := by
  unfold wY_look_27
  rw [cw_cl (n := b) (by omega)]
  refine br_t (by decide) ?_
  refine pk_le h 999999 (fun h1 => ⟨cw_in hb (by decide), ?_⟩) (fun h1 => nm_r (e' := nI (h % 1000000)) ?_ ⟨cw_in hb (by decide), hP⟩)
  · rw [Nat.mod_eq_of_lt (by omega)] at hP
    exact hP
  · obtain rfl : h = 1000000 := by omega
    decide
theorem cy_l_0 {b d i h n : Nat} (hb : b < 80) (hd : d < 2) (hi : 80 * d + b = i) (hz : ba i = 0) {P : Int64 → SY → Prop} (hW : wY_look_27 P (nI b) fs fl n (nI (d + 1)) (nI h) th fr ha be va ba lo sV he sp sh) : wY_look_27 P (nI b) fs fl (n + 1) (nI d) (nI h) th fr ha be va ba lo sV he sp sh := by
  unfold wY_look_27
  rw [cw_ix4, hi, cw_cl (n := i) (by omega)]
  exact br_f (nI_ge (b := 2) hd (by decide)) ⟨cw_in (by omega) (by decide), br_t hz (nm_r (nI_1 d) hW)⟩
theorem cy_l_1 {b d i h n : Nat} (hb : b < 80) (hd : d < 2) (hi : 80 * d + b = i) (hz : ¬ ba i = 0) (hl : lo d = 0) {P : Int64 → SY → Prop} (hW : wY_look_27 P (nI b) fs fl n (nI (d + 1)) (nI (h + 1)) th fr ha be va (upd ba i 0) lo sV he sp sh) : wY_look_27 P (nI b) fs fl (n + 1) (nI d) (nI h) th fr ha be va ba lo sV he sp sh := by
  unfold wY_look_27
  rw [cw_ix4, hi, cw_cl (n := i) (by omega), cw_cl (n := d) (by omega), cw_b0]
  exact br_f (nI_ge (b := 2) hd (by decide)) ⟨cw_in (by omega) (by decide), br_f hz ⟨cw_in hd (by decide), br_t hl ⟨cw_in (by omega) (by decide), nm_e (nm_r (nI_1 h) (nm_r (nI_1 d) hW))⟩⟩⟩
theorem cy_l_2 {b d i h n : Nat} (hb : b < 80) (hd : d < 2) (hi : 80 * d + b = i) (hz : ¬ ba i = 0) (hl : ¬ lo d = 0) {P : Int64 → SY → Prop} (hW : wY_look_27 P (nI b) fs fl n (nI (d + 1)) (nI h) th fr ha be va ba lo sV he sp sh) : wY_look_27 P (nI b) fs fl (n + 1) (nI d) (nI h) th fr ha be va ba lo sV he sp sh := by
  unfold wY_look_27
  rw [cw_ix4, hi, cw_cl (n := i) (by omega), cw_cl (n := d) (by omega)]
  exact br_f (nI_ge (b := 2) hd (by decide)) ⟨cw_in (by omega) (by decide), br_f hz ⟨cw_in hd (by decide), br_f hl (nm_r (nI_1 d) hW)⟩⟩
theorem cy_look_b {b : Nat} (hb : b < 80) (h0 : ¬ ba b = 0) (h1 : ¬ ba (80 + b) = 0) {P : Int64 → SY → Prop} (hP : P 1000000000001 (fs, fh, fl, th, fr, ha, be, va, ba, lo, sV, he, sp, sh)) : wpY_look P (fs, fh, fl, th, fr, ha, be, va, ba, lo, sV, he, sp, sh) (nI b) := by
  unfold wpY_look
  dsimp only
  rw [cw_ix5, cw_cl (n := b) (by omega), cw_cl (n := 80 + b) (by omega)]
  exact ⟨cw_in (by omega) (by decide), br_f h0 ⟨cw_in (by omega) (by decide), br_f h1 hP⟩⟩
theorem cy_look_n {b : Nat} (hb : b < 80) (h01 : ba b = 0 ∨ ba (80 + b) = 0) {P : Int64 → SY → Prop} (hP : wY_look_27 P (nI b) fs fl 3 (nI 0) fh th fr ha be va ba lo sV he sp sh) : wpY_look P (fs, fh, fl, th, fr, ha, be, va, ba, lo, sV, he, sp, sh) (nI b) := by
  unfold wpY_look
  dsimp only
  rw [cw_ix5, cw_cl (n := b) (by omega), cw_cl (n := 80 + b) (by omega)]
  refine ⟨cw_in (by omega) (by decide), br_c (fun _ => ⟨3, hP⟩) (fun z => ⟨cw_in (by omega) (by decide), ?_⟩)⟩
  rcases h01 with h | h
  · exact absurd h z
  · exact br_t h ⟨3, hP⟩
def cw_scr (lo ba : Nat → Int32) (b : Nat) : Nat := if lo (if ba b = 0 then 1 else 0) = 0 then 1 else 0
theorem cj_look {b h : Nat} (hb : b < 80) (hh : h < 1000000) (G0 : cw_G (go b) (ba b)) (G1 : cw_G (go (80 + b)) (ba (80 + b))) :
    ∃ (r h' : Nat) (go' ba' : Nat → Int32) (y : Int64), h' < 1000000 ∧ (∀ i, i ≠ b → i ≠ 80 + b → go' i = go i ∧ ba' i = ba i) ∧ cw_G (go' b) (ba' b) ∧ cw_G (go' (80 + b)) (ba' (80 + b)) ∧
      ((go' b = 0 ∧ go' (80 + b) = 0 ∧ y = 1000000000001) ∨ (¬ (go' b = 0 ∧ go' (80 + b) = 0) ∧ y = (va b).toInt64)) ∧
      ((ba b = ba (80 + b) ∧ r = 0 ∧ h' = h ∧ go' = go ∧ ba' = ba) ∨ (¬ ba b = ba (80 + b) ∧ r = cw_scr lo ba b)) ∧
      (∀ P : Int32 → SX → Prop, P (nI r) (fs, nI h', fl, th, wr, bk, hc, va, go', lo, sp, sv, sh, sd) → wpX_lookAt P (fs, nI h, fl, th, wr, bk, hc, va, go, lo, sp, sv, sh, sd) (nI b)) ∧
      (∀ P : Int64 → SY → Prop, P y (fs, nI h', fl, th, fr, ha, be, va, ba', lo, sV, he, sp, sh) → wpY_look P (fs, nI h, fl, th, fr, ha, be, va, ba, lo, sV, he, sp, sh) (nI b)) := by
  have hm : h % 1000000 = h := Nat.mod_eq_of_lt hh
  have hm1 : (h + 1) % 1000000 < 1000000 := Nat.mod_lt _ (by decide)
  have i0 : 80 * 0 + b = b := by omega
  have i1 : 80 * 1 + b = 80 + b := by omega
  have hne : b ≠ 80 + b := by omega
  have n01 : ¬ (0 : Int32) = 1 := by decide
  have n10 : ¬ (1 : Int32) = 0 := by decide
  rcases G0 with ⟨g0, b0⟩ | ⟨g0, b0⟩ <;> rcases G1 with ⟨g1, b1⟩ | ⟨g1, b1⟩
  · refine ⟨0, h, go, ba, 1000000000001, hh, fun _ _ _ => ⟨rfl, rfl⟩, Or.inl ⟨g0, b0⟩, Or.inl ⟨g1, b1⟩, Or.inl ⟨g0, g1, rfl⟩, Or.inl ⟨b0.trans b1.symm, rfl, rfl, rfl, rfl⟩, fun P hP => ?_, fun P hP => ?_⟩
    · exact cx_look_e hb (g0.trans g1.symm) hP
    · exact cy_look_b hb (by rw [b0]; exact n10) (by rw [b1]; exact n10) hP
  · have hb01 : ¬ ba b = ba (80 + b) := by rw [b0, b1]; exact n10
    have hq : ¬ ba b = 0 := by rw [b0]; exact n10
    by_cases hl : lo 0 = 0
    · have hs : cw_scr lo ba b = 1 := by unfold cw_scr; rw [if_neg hq, if_pos hl]
      have u1 : upd ba b 0 (80 + b) = 0 := by rw [pk_un hne.symm]; exact b1
      refine ⟨1, (h + 1) % 1000000, upd go b 1, upd ba b 0, (va b).toInt64, hm1, fun i hi _ => ⟨pk_un hi, pk_un hi⟩, Or.inr ⟨pk_us, pk_us⟩, Or.inr ⟨?_, u1⟩, Or.inr ⟨?_, rfl⟩, Or.inr ⟨hb01, hs.symm⟩, fun P hP => ?_, fun P hP => ?_⟩
      · rw [pk_un hne.symm]; exact g1
      · rw [pk_us]; exact fun z => n10 z.1
      · exact cx_look_0 hb g0 g1 (cx_l34_t hb (by decide) i0 hh hl hP)
      · exact cy_look_n hb (Or.inr b1) (cy_l_1 hb (by decide) i0 hq hl (cy_l_0 hb (by decide) i1 u1 (cy_l_end hb (by omega) hP)))
    · have hs : cw_scr lo ba b = 0 := by unfold cw_scr; rw [if_neg hq, if_neg hl]
      refine ⟨0, h, go, ba, (va b).toInt64, hh, fun _ _ _ => ⟨rfl, rfl⟩, Or.inl ⟨g0, b0⟩, Or.inr ⟨g1, b1⟩, Or.inr ⟨?_, rfl⟩, Or.inr ⟨hb01, hs.symm⟩, fun P hP => ?_, fun P hP => ?_⟩
      · rw [g1]; exact fun z => n10 z.2
      · exact cx_look_0 hb g0 g1 (cx_l34_f (by decide) hl hP)
      · exact cy_look_n hb (Or.inr b1) (cy_l_2 hb (by decide) i0 hq hl (cy_l_0 hb (by decide) i1 b1 (cy_l_end hb (by omega) (by rw [hm]; exact hP))))
  · have hb01 : ¬ ba b = ba (80 + b) := by rw [b0, b1]; exact n01
    have hq : ¬ ba (80 + b) = 0 := by rw [b1]; exact n10
    by_cases hl : lo 1 = 0
    · have hs : cw_scr lo ba b = 1 := by unfold cw_scr; rw [if_pos b0, if_pos hl]
      refine ⟨1, (h + 1) % 1000000, upd go (80 + b) 1, upd ba (80 + b) 0, (va b).toInt64, hm1, fun i _ hi => ⟨pk_un hi, pk_un hi⟩, Or.inr ⟨?_, ?_⟩, Or.inr ⟨pk_us, pk_us⟩, Or.inr ⟨?_, rfl⟩, Or.inr ⟨hb01, hs.symm⟩, fun P hP => ?_, fun P hP => ?_⟩
      · rw [pk_un hne]; exact g0
      · rw [pk_un hne]; exact b0
      · rw [pk_us]; exact fun z => n10 z.2
      · exact cx_look_1 hb g0 g1 (cx_l34_t hb (by decide) i1 hh hl hP)
      · exact cy_look_n hb (Or.inl b0) (cy_l_0 hb (by decide) i0 b0 (cy_l_1 hb (by decide) i1 hq hl (cy_l_end hb (by omega) hP)))
    · have hs : cw_scr lo ba b = 0 := by unfold cw_scr; rw [if_pos b0, if_neg hl]
      refine ⟨0, h, go, ba, (va b).toInt64, hh, fun _ _ _ => ⟨rfl, rfl⟩, Or.inr ⟨g0, b0⟩, Or.inl ⟨g1, b1⟩, Or.inr ⟨?_, rfl⟩, Or.inr ⟨hb01, hs.symm⟩, fun P hP => ?_, fun P hP => ?_⟩
      · rw [g0]; exact fun z => n10 z.1
      · exact cx_look_1 hb g0 g1 (cx_l34_f (by decide) hl hP)
      · exact cy_look_n hb (Or.inl b0) (cy_l_0 hb (by decide) i0 b0 (cy_l_2 hb (by decide) i1 hq hl (cy_l_end hb (by omega) (by rw [hm]; exact hP))))
  · refine ⟨0, h, go, ba, (va b).toInt64, hh, fun _ _ _ => ⟨rfl, rfl⟩, Or.inr ⟨g0, b0⟩, Or.inr ⟨g1, b1⟩, Or.inr ⟨?_, rfl⟩, Or.inl ⟨b0.trans b1.symm, rfl, rfl, rfl, rfl⟩, fun P hP => ?_, fun P hP => ?_⟩
    · rw [g0]; exact fun z => n10 z.1
    · exact cx_look_e hb (g0.trans g1.symm) hP
    · exact cy_look_n hb (Or.inl b0) (cy_l_0 hb (by decide) i0 b0 (cy_l_0 hb (by decide) i1 b1 (cy_l_end hb (by omega) (by rw [hm]; exact hP))))
theorem cx_broken_t {b : Nat} (hb : b < 80) (h0 : go b = 0) (h1 : go (80 + b) = 0) {P : Int32 → Prop} (hP : P 1) : wpX_isBroken P (fs, fh, fl, th, wr, bk, hc, va, go, lo, sp, sv, sh, sd) (nI b) := by
  unfold wpX_isBroken
  dsimp only
  rw [cw_ix5, cw_cl (n := b) (by omega), cw_cl (n := 80 + b) (by omega)]
  exact ⟨cw_in (by omega) (by decide), br_t h0 ⟨cw_in (by omega) (by decide), br_t h1 hP⟩⟩
theorem cx_broken_f {b : Nat} (hb : b < 80) (h : ¬ (go b = 0 ∧ go (80 + b) = 0)) {P : Int32 → Prop} (hP : P 0) : wpX_isBroken P (fs, fh, fl, th, wr, bk, hc, va, go, lo, sp, sv, sh, sd) (nI b) := by
  unfold wpX_isBroken
  dsimp only
  rw [cw_ix5, cw_cl (n := b) (by omega), cw_cl (n := 80 + b) (by omega)]
  exact ⟨cw_in (by omega) (by decide), br_c (fun z => ⟨cw_in (by omega) (by decide), br_f (fun z2 => h ⟨z, z2⟩) hP⟩) (fun _ => hP)⟩
/-- a look at one block keeps the copies in step -/
theorem cw_RG_look {g : Nat → Nat} {b : Nat} {go' ba' : Nat → Int32} (hb : b < 80) (hR : cw_RG g go ba) (hn : ∀ i, i ≠ b → i ≠ 80 + b → go' i = go i ∧ ba' i = ba i) (G0 : cw_G (go' b) (ba' b)) (G1 : cw_G (go' (80 + b)) (ba' (80 + b))) : cw_RG g go' ba' := by
  intro c hc hu
  by_cases e : c = b
  · subst e
    exact ⟨G0, G1⟩
  · obtain ⟨h1, h2⟩ := hn c e (by omega)
    obtain ⟨h3, h4⟩ := hn (80 + c) (by omega) (by omega)
    rw [h1, h2, h3, h4]
    exact hR c hc hu
end
