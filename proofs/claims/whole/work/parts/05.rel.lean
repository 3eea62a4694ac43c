def cw_K (g : Nat → Nat) (s h l : Nat) (th wr bk hc go lo sp sv sh fr ha ba sV : Nat → Int32) : Prop :=
  s < 80 ∧ h < 1000000 ∧ l ≤ 64 ∧ cw_WF th wr fr ∧ cw_BK g bk ∧ cw_HC g hc ∧ cw_HA th g ha ∧ cw_RG g go ba ∧ (∀ d, d < 2 → lo d = 0 ∨ lo d = 1) ∧ (∀ k, ∃ p, p < 64 ∧ sp k = nI p) ∧ (∀ k, ¬ sh k = 0 → sv k = sV k)
/-- the two stores hold the same: g names what stands at each place (0: nothing, b + 1: block b; nothing where no volume is), counts are counts of g, copies of used blocks agree -/
def i_Rel (k : Nat) (u : SX) (v : SY) : Prop :=
  ∃ (g : Nat → Nat) (s h l : Nat) (th wr bk hc va go lo sp sv sh sd fr ha be ba sV he : Nat → Int32), u = (nI s, nI h, nI l, th, wr, bk, hc, va, go, lo, sp, sv, sh, sd) ∧ v = (nI s, nI h, nI l, th, fr, ha, be, va, ba, lo, sV, he, sp, sh) ∧ cw_K g s h l th wr bk hc go lo sp sv sh fr ha ba sV
theorem i_up {k : Nat} {u : SX} {v : SY} (h : i_Rel k u v) : i_Rel (k + 6) u v := h
section
variable {fs fh fl : Int32} {th wr bk hc va go lo sp sv sh sd fr ha be ba sV he : Nat → Int32}
theorem cw_mk {k : Nat} {g : Nat → Nat} {s h l : Nat} (K : cw_K g s h l th wr bk hc go lo sp sv sh fr ha ba sV) : i_Rel k (nI s, nI h, nI l, th, wr, bk, hc, va, go, lo, sp, sv, sh, sd) (nI s, nI h, nI l, th, fr, ha, be, va, ba, lo, sV, he, sp, sh) :=
  ⟨g, s, h, l, th, wr, bk, hc, va, go, lo, sp, sv, sh, sd, fr, ha, be, ba, sV, he, rfl, rfl, K⟩
theorem cw_g80 {g : Nat → Nat} (hb : cw_BK g bk) : ∀ x, x < 384 → g x ≤ 80 := fun x hx => (hb x hx).1
theorem cx_init {P : SX → Prop} (hP : ∀ bk', (∀ x, x < 384 → bk' x = -1) → P (fs, fh, fl, th, wr, bk', hc, va, go, lo, sp, sv, sh, sd)) : ∀ (d j : Nat) (bk : Nat → Int32), j + d = 384 → (∀ x, x < j → bk x = -1) → wX_init_110 P fs fh fl (d + 1) (nI j) th wr bk hc va go lo sp sv sh sd := by
  intro d
  induction d with
  | zero =>
    intro j bk hj hb
    obtain rfl : j = 384 := by omega
    exact br_t (show (384 : Int32) ≤ nI 384 by decide) (hP bk hb)
  | succ d ih =>
    intro j bk hj hb
    unfold wX_init_110
    rw [cw_cl (n := j) (by omega)]
    refine br_f (nI_ge (b := 384) (by omega) (by decide)) ⟨cw_in (by omega) (by decide), nm_e (nm_r (nI_1 j) (ih (j + 1) _ (by omega) (fun x hx => ?_)))⟩
    by_cases e : x = j
    · rw [e, pk_us]
    · rw [pk_un e]
      exact hb x (by omega)
theorem cw_C0 (b : Nat) : cw_C (fun _ => 0) (b + 1) = 0 := by
  apply Classical.byContradiction
  intro h
  obtain ⟨x, _, e⟩ := cw_C_pos.mp (Nat.pos_of_ne_zero h)
  omega
theorem i_vc0 : wpX_init (fun u => wpY_init (fun v => i_Rel 0 u v)) := by
  refine ⟨385, cx_init (fun bk' hb => ?_) 384 0 _ rfl (fun x hx => absurd hx (Nat.not_lt_zero x))⟩
  show i_Rel 0 _ _
  refine cw_mk (g := fun _ => 0) (s := 0) (h := 0) (l := 0) ⟨by decide, by decide, by decide, fun v _ h => absurd rfl h, fun x hx => ⟨Nat.zero_le _, (hb x hx).trans cw_em1.symm⟩, fun b _ => ?_, fun x _ => ⟨fun _ => rfl, fun h => absurd rfl h⟩, fun b _ h => ?_, fun d _ => Or.inl rfl, fun k => ⟨0, by decide, rfl⟩, fun k h => absurd rfl h⟩
  · rw [cw_C0]
    rfl
  · rw [cw_C0] at h
    exact absurd h (Nat.lt_irrefl 0)
/-! create -/
theorem cy_cr28 {v : Nat} (hv : v < 6) : ∀ (d j : Nat) (ha : Nat → Int32), j + d = 64 → ∃ ha' : Nat → Int32, (∀ x, x < 64 * v + j ∨ 64 * v + 64 ≤ x → ha' x = ha x) ∧ (∀ x, 64 * v + j ≤ x → x < 64 * v + 64 → ha' x = 0) ∧ ∀ P : Int32 → SY → Prop, P (nI v) (fs, fh, fl, th, fr, ha', be, va, ba, lo, sV, he, sp, sh) → wY_create_28 P (nI v) fs fh fl (d + 1) (nI j) th fr ha be va ba lo sV he sp sh := by
  intro d
  induction d with
  | zero =>
    intro j ha hj
    obtain rfl : j = 64 := by omega
    exact ⟨ha, fun x _ => rfl, fun x h1 h2 => by omega, fun P hP => br_t (show (64 : Int32) ≤ nI 64 by decide) hP⟩
  | succ d ih =>
    intro j ha hj
    obtain ⟨ha', h1, h2, hT⟩ := ih (j + 1) (upd ha (64 * v + j) 0) (by omega)
    refine ⟨ha', fun x hx => ?_, fun x hx hx2 => ?_, fun P hP => ?_⟩
    · rw [h1 x (by omega), pk_un (by omega)]
    · by_cases e : x = 64 * v + j
      · rw [h1 x (by omega), e, pk_us]
      · exact h2 x (by omega) hx2
    · unfold wY_create_28
      rw [cw_ix2, cw_cl (by omega), cw_by0]
      exact br_f (nI_ge (b := 64) (by omega) (by decide)) ⟨cw_in (by omega) (by decide), nm_e (nm_r (nI_1 j) (hT P hP))⟩
theorem cy_create_t {v : Nat} (hv : v < 6) (hY : ∀ P : Int32 → Prop, P (nI v) → wpY_least P (fs, fh, fl, th, fr, ha, be, va, ba, lo, sV, he, sp, sh)) : ∃ ha' : Nat → Int32, (∀ x, x < 64 * v ∨ 64 * v + 64 ≤ x → ha' x = ha x) ∧ (∀ x, 64 * v ≤ x → x < 64 * v + 64 → ha' x = 0) ∧ ∀ P : Int32 → SY → Prop, P (nI v) (fs, fh, fl, upd th v 1, upd fr v 0, ha', be, va, ba, lo, sV, he, sp, sh) → wpY_create P (fs, fh, fl, th, fr, ha, be, va, ba, lo, sV, he, sp, sh) := by
  obtain ⟨ha', h1, h2, hT⟩ := cy_cr28 (fs := fs) (fh := fh) (fl := fl) (th := upd th v 1) (fr := upd fr v 0) (be := be) (va := va) (ba := ba) (lo := lo) (sV := sV) (he := he) (sp := sp) (sh := sh) hv 64 0 ha rfl
  refine ⟨ha', h1, h2, fun P hP => ?_⟩
  unfold wpY_create
  dsimp only
  refine hY _ (br_t (nI_pos' (by omega)) ?_)
  rw [cw_cl (by omega), cw_b0, cw_b1]
  exact ⟨cw_in hv (by decide), nm_e ⟨cw_in hv (by decide), nm_e ⟨65, hT P hP⟩⟩⟩
theorem cy_create_f (hY : ∀ P : Int32 → Prop, P (-2) → wpY_least P (fs, fh, fl, th, fr, ha, be, va, ba, lo, sV, he, sp, sh)) {P : Int32 → SY → Prop} (hP : P (-2) (fs, fh, fl, th, fr, ha, be, va, ba, lo, sV, he, sp, sh)) : wpY_create P (fs, fh, fl, th, fr, ha, be, va, ba, lo, sV, he, sp, sh) := by
  unfold wpY_create
  dsimp only
  exact hY _ (br_f (by decide) hP)
theorem cw_WF_up {m : Nat} {a b : Int32} (hW : cw_WF th wr fr) (hab : a = 0 ↔ ¬ b = 0) : cw_WF (upd th m 1) (upd wr m a) (upd fr m b) := by
  intro v hv ht
  by_cases e : v = m
  · rw [e, pk_us, pk_us]
    exact hab
  · rw [pk_un e] at ht ⊢
    rw [pk_un e]
    exact hW v hv ht
theorem cw_upup (f : Nat → Int32) (m : Nat) (a b : Int32) : upd (upd f m a) m b = upd f m b := by
  funext x
  by_cases e : x = m
  · rw [e, pk_us, pk_us]
  · rw [pk_un e, pk_un e, pk_un e]
theorem i_vc_create {k : Nat} {u : SX} {v : SY} (I : i_Rel k u v) (hk : k + 6 ≤ 3072) : wpX_create (fun r u' => wpY_create (fun r' v' => r' = r ∧ i_Rel (k + 6) u' v') v) u := by
  obtain ⟨g, s, h, l, th, wr, bk, hc, va, go, lo, sp, sv, sh, sd, fr, ha, be, ba, sV, he, rfl, rfl, hs, hh, hl, hW, hB, hH, hA, hG, hL, hS, hV⟩ := I
  unfold wpX_create
  dsimp only
  rcases cj_least (fs := nI s) (fh := nI h) (fl := nI l) (th := th) (wr := wr) (bk := bk) (hc := hc) (va := va) (go := go) (lo := lo) (sp := sp) (sv := sv) (sh := sh) (sd := sd) (fr := fr) (ha := ha) (be := be) (ba := ba) (sV := sV) (he := he) with ⟨m, hm, ht, hX, hY⟩ | ⟨hX, hY⟩
  · refine hX _ (br_f (cw_en1 _ (by omega)) ?_)
    rw [cw_cl (by omega), cw_b1]
    obtain ⟨ha', h1, h2, hT⟩ := cy_create_t hm hY
    refine ⟨cw_in hm (by decide), nm_e ⟨cw_in hm (by decide), nm_e (hT _ ⟨rfl, cw_mk ⟨hs, hh, hl, cw_WF_up hW (by decide), hB, hH, fun x hx => ?_, hG, hL, hS, hV⟩⟩)⟩⟩
    by_cases e : x / 64 = m
    · rw [e, pk_us]
      exact ⟨fun z => absurd z (by decide), fun _ => by rw [h2 x (by omega) (by omega), (hA x hx).1 (by rw [e]; exact ht)]; rfl⟩
    · rw [pk_un e, h1 x (by omega)]
      exact hA x hx
  · exact hX _ (br_t rfl (cy_create_f hY ⟨rfl, cw_mk ⟨hs, hh, hl, hW, hB, hH, hA, hG, hL, hS, hV⟩⟩))
end
