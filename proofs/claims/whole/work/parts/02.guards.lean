section
variable {fs fh fl : Int32} {th wr bk hc va go lo sp sv sh sd fr ha be ba sV he : Nat → Int32}
def cw_is (th : Nat → Int32) (x : Int32) : Prop := ∃ v, v < 6 ∧ x = nI v ∧ ¬ th v = 0
def cw_wr (th wr : Nat → Int32) (x : Int32) : Prop := ∃ v, v < 6 ∧ x = nI v ∧ ¬ th v = 0 ∧ ¬ wr v = 0
def cw_wf (th fr : Nat → Int32) (x : Int32) : Prop := ∃ v, v < 6 ∧ x = nI v ∧ ¬ th v = 0 ∧ fr v = 0
def cw_us (g : Nat → Nat) (x : Int32) : Prop := ∃ b, b < 80 ∧ x = nI b ∧ 0 < cw_C g (b + 1)
def cw_WF (th wr fr : Nat → Int32) : Prop := ∀ v, v < 6 → ¬ th v = 0 → (wr v = 0 ↔ ¬ fr v = 0)
theorem cw_wrf (h : cw_WF th wr fr) (x : Int32) : cw_wr th wr x ↔ cw_wf th fr x := by
  constructor
  · intro ⟨v, hv, e, ht, hw⟩
    exact ⟨v, hv, e, ht, Classical.byContradiction fun z => hw ((h v hv ht).mpr z)⟩
  · intro ⟨v, hv, e, ht, hw⟩
    exact ⟨v, hv, e, ht, fun z => (h v hv ht).mp z hw⟩
theorem cx_place_t {P : Int32 → Prop} {p : Nat} (hp : p < 64) (h : P 1) : wpX_isPlace P (nI p) := by
  unfold wpX_isPlace
  exact br_f (nI_pos (by omega)) (br_f (nI_ge (b := 64) hp (by decide)) h)
theorem cx_place_f {P : Int32 → Prop} {x : Int32} (hx : ¬ cw_lt 64 x) (h : P 0) : wpX_isPlace P x := by
  unfold wpX_isPlace
  rcases pk_ix x (n := 64) (by decide) with h1 | h1 | ⟨j, hj, e⟩
  · exact br_t h1 h
  · exact br_c (fun _ => h) (fun _ => br_t h1 h)
  · exact absurd ⟨j, hj, e⟩ hx
theorem cx_disk_t {P : Int32 → Prop} {p : Nat} (hp : p < 2) (h : P 1) : wpX_isDisk P (nI p) := by
  unfold wpX_isDisk
  exact br_f (nI_pos (by omega)) (br_f (nI_ge (b := 2) hp (by decide)) h)
theorem cx_disk_f {P : Int32 → Prop} {x : Int32} (hx : ¬ cw_lt 2 x) (h : P 0) : wpX_isDisk P x := by
  unfold wpX_isDisk
  rcases pk_ix x (n := 2) (by decide) with h1 | h1 | ⟨j, hj, e⟩
  · exact br_t h1 h
  · exact br_c (fun _ => h) (fun _ => br_t h1 h)
  · exact absurd ⟨j, hj, e⟩ hx
theorem cy_out_t {P : Int32 → Prop} {p n : Nat} (hp : p < n) (hn : n < 100000) (h : P 0) : wpY_out P (nI p) (nI n) := by
  unfold wpY_out
  exact br_f (nI_pos (by omega)) (br_t (nI_lt hp (by omega)) h)
theorem cy_out_f {P : Int32 → Prop} {x : Int32} {n : Nat} (hx : ¬ cw_lt n x) (hn : n < 100000) (h : P 1) : wpY_out P x (nI n) := by
  unfold wpY_out
  rcases pk_ix x (n := n) (by omega) with h1 | h1 | ⟨j, hj, e⟩
  · exact br_t h1 h
  · exact br_c (fun _ => h) (fun _ => br_f (Int32.not_lt.mpr h1) h)
  · exact absurd ⟨j, hj, e⟩ hx
theorem cx_is_t {P : Int32 → Prop} {v : Nat} (hv : v < 6) (ht : ¬ th v = 0) (h : P 1) : wpX_isThere P (fs, fh, fl, th, wr, bk, hc, va, go, lo, sp, sv, sh, sd) (nI v) := by
  unfold wpX_isThere
  dsimp only
  refine br_f (nI_pos (by omega)) (br_f (nI_ge (b := 6) hv (by decide)) ⟨cw_in hv (by decide), ?_⟩)
  rw [cw_cl (by omega)]
  exact br_f ht h
theorem cx_is_f {P : Int32 → Prop} {x : Int32} (hx : ¬ cw_is th x) (h : P 0) : wpX_isThere P (fs, fh, fl, th, wr, bk, hc, va, go, lo, sp, sv, sh, sd) x := by
  unfold wpX_isThere
  dsimp only
  rcases pk_ix x (n := 6) (by decide) with h1 | h1 | ⟨j, hj, e⟩
  · exact br_t h1 h
  · exact br_c (fun _ => h) (fun _ => br_t h1 h)
  · subst e
    refine br_f (nI_pos (by omega)) (br_f (nI_ge (b := 6) hj (by decide)) ⟨cw_in hj (by decide), ?_⟩)
    rw [cw_cl (by omega)]
    exact br_c (fun _ => h) (fun z => absurd ⟨j, hj, rfl, z⟩ hx)
theorem cy_is_t {P : Int32 → Prop} {v : Nat} (hv : v < 6) (ht : ¬ th v = 0) (h : P 1) : wpY_is P (fs, fh, fl, th, fr, ha, be, va, ba, lo, sV, he, sp, sh) (nI v) := by
  unfold wpY_is
  dsimp only
  refine cy_out_t hv (by decide) (br_t rfl ⟨cw_in hv (by decide), ?_⟩)
  rw [cw_cl (by omega)]
  exact br_f ht h
theorem cy_is_f {P : Int32 → Prop} {x : Int32} (hx : ¬ cw_is th x) (h : P 0) : wpY_is P (fs, fh, fl, th, fr, ha, be, va, ba, lo, sV, he, sp, sh) x := by
  unfold wpY_is
  dsimp only
  by_cases hl : cw_lt 6 x
  · obtain ⟨j, hj, e⟩ := hl
    subst e
    refine cy_out_t hj (by decide) (br_t rfl ⟨cw_in hj (by decide), ?_⟩)
    rw [cw_cl (by omega)]
    exact br_c (fun _ => h) (fun z => absurd ⟨j, hj, rfl, z⟩ hx)
  · exact cy_out_f hl (by decide) (br_f (by decide) h)
theorem cx_wr_t {P : Int32 → Prop} {v : Nat} (hv : v < 6) (ht : ¬ th v = 0) (hw : ¬ wr v = 0) (h : P 1) : wpX_isWritable P (fs, fh, fl, th, wr, bk, hc, va, go, lo, sp, sv, sh, sd) (nI v) := by
  unfold wpX_isWritable
  dsimp only
  refine cx_is_t hv ht (br_f (by decide) ⟨cw_in hv (by decide), ?_⟩)
  rw [cw_cl (by omega)]
  exact br_f hw h
theorem cx_wr_f {P : Int32 → Prop} {x : Int32} (hx : ¬ cw_wr th wr x) (h : P 0) : wpX_isWritable P (fs, fh, fl, th, wr, bk, hc, va, go, lo, sp, sv, sh, sd) x := by
  unfold wpX_isWritable
  dsimp only
  by_cases hl : cw_is th x
  · obtain ⟨j, hj, e, ht⟩ := hl
    subst e
    refine cx_is_t hj ht (br_f (by decide) ⟨cw_in hj (by decide), ?_⟩)
    rw [cw_cl (by omega)]
    exact br_c (fun _ => h) (fun z => absurd ⟨j, hj, rfl, ht, z⟩ hx)
  · exact cx_is_f hl (br_t rfl h)
theorem cy_wr_t {P : Int32 → Prop} {v : Nat} (hv : v < 6) (ht : ¬ th v = 0) (hw : fr v = 0) (h : P 1) : wpY_writable P (fs, fh, fl, th, fr, ha, be, va, ba, lo, sV, he, sp, sh) (nI v) := by
  unfold wpY_writable
  dsimp only
  refine cy_is_t hv ht (br_f (by decide) ⟨cw_in hv (by decide), ?_⟩)
  rw [cw_cl (by omega)]
  exact br_t hw h
theorem cy_wr_f {P : Int32 → Prop} {x : Int32} (hx : ¬ cw_wf th fr x) (h : P 0) : wpY_writable P (fs, fh, fl, th, fr, ha, be, va, ba, lo, sV, he, sp, sh) x := by
  unfold wpY_writable
  dsimp only
  by_cases hl : cw_is th x
  · obtain ⟨j, hj, e, ht⟩ := hl
    subst e
    refine cy_is_t hj ht (br_f (by decide) ⟨cw_in hj (by decide), ?_⟩)
    rw [cw_cl (by omega)]
    exact br_c (fun z => absurd ⟨j, hj, rfl, ht, z⟩ hx) (fun _ => h)
  · exact cy_is_f hl (br_t rfl h)
theorem cx_used_t {P : Int32 → Prop} {g : Nat → Nat} {b : Nat} (hb : b < 80) (hh : cw_HC g hc) (hu : 0 < cw_C g (b + 1)) (h : P 1) : wpX_isUsed P (fs, fh, fl, th, wr, bk, hc, va, go, lo, sp, sv, sh, sd) (nI b) := by
  unfold wpX_isUsed
  dsimp only
  refine br_f (nI_pos (by omega)) (br_f (nI_ge (b := 80) hb (by decide)) ⟨cw_in hb (by decide), ?_⟩)
  have hl := cw_C_le g (b + 1)
  rw [cw_cl (by omega), hh b hb, cw_zl (by omega)]
  exact br_f (by omega) h
theorem cx_used_z {P : Int32 → Prop} {g : Nat → Nat} {b : Nat} (hb : b < 80) (hh : cw_HC g hc) (hu : ¬ 0 < cw_C g (b + 1)) (h : P 0) : wpX_isUsed P (fs, fh, fl, th, wr, bk, hc, va, go, lo, sp, sv, sh, sd) (nI b) := by
  unfold wpX_isUsed
  dsimp only
  refine br_f (nI_pos (by omega)) (br_f (nI_ge (b := 80) hb (by decide)) ⟨cw_in hb (by decide), ?_⟩)
  have hl := cw_C_le g (b + 1)
  rw [cw_cl (by omega), hh b hb, cw_zl (by omega)]
  exact br_t (by omega) h
theorem cx_used_f {P : Int32 → Prop} {x : Int32} (hx : ¬ cw_lt 80 x) (h : P 0) : wpX_isUsed P (fs, fh, fl, th, wr, bk, hc, va, go, lo, sp, sv, sh, sd) x := by
  unfold wpX_isUsed
  dsimp only
  rcases pk_ix x (n := 80) (by decide) with h1 | h1 | ⟨j, hj, e⟩
  · exact br_t h1 h
  · exact br_c (fun _ => h) (fun _ => br_t h1 h)
  · exact absurd ⟨j, hj, e⟩ hx
theorem cx_range_t {P : Int32 → Prop} {p n : Nat} (hn : n ≤ 64) (hp : p < 65 - n) (h : P 1) : wpX_isRange P (nI p) (nI n) := by
  unfold wpX_isRange
  refine br_f (nI_pos (by omega)) (br_f (nI_nlt (a := 64) hn (by decide)) (br_f (nI_pos (by omega)) ?_))
  rw [show (64 : Int32) = nI 64 from rfl, pk_sub hn]
  exact br_f (nI_nlt (by omega) (by omega)) h
theorem cx_range_f1 {P : Int32 → Prop} {x y : Int32} (hy : ¬ cw_lt 65 y) (h : P 0) : wpX_isRange P x y := by
  unfold wpX_isRange
  rcases pk_ix y (n := 65) (by decide) with h1 | h1 | ⟨j, hj, e⟩
  · exact br_t h1 h
  · exact br_c (fun _ => h) (fun _ => br_t (Int32.lt_of_lt_of_le (show (64 : Int32) < nI 65 by decide) h1) h)
  · exact absurd ⟨j, hj, e⟩ hy
theorem cx_range_f2 {P : Int32 → Prop} {x : Int32} {n : Nat} (hn : n ≤ 64) (hx : ¬ cw_lt (65 - n) x) (h : P 0) : wpX_isRange P x (nI n) := by
  unfold wpX_isRange
  refine br_f (nI_pos (by omega)) (br_f (nI_nlt (a := 64) hn (by decide)) ?_)
  rw [show (64 : Int32) = nI 64 from rfl, pk_sub hn]
  rcases pk_ix x (n := 65 - n) (by omega) with h1 | h1 | ⟨j, hj, e⟩
  · exact br_t h1 h
  · exact br_c (fun _ => h) (fun _ => br_t (Int32.lt_of_lt_of_le (nI_lt (by omega) (by omega)) h1) h)
  · exact absurd ⟨j, hj, e⟩ hx
end
