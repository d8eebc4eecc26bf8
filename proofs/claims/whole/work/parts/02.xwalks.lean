/-! the component's methods, each: its value's post gives the walk -/
def sd_K (th kw : Nat → Int32) : Prop := ∀ d, d ≤ 6 → ∀ e, e < 2 ^ d → kw (2 ^ d + e) = nI (sd_C th d e 256)
theorem sd_vb0 : vp_nar .boolean 0 = 0 := by decide
theorem sd_vb1 : vp_nar .boolean 1 = 1 := by decide
theorem sd_kc {th kw : Nat → Int32} (hc : sd_K th kw) (k : Nat) {d : Nat} (hd : d ≤ 6) : kw (nI (2 ^ d + k % 2 ^ d)).toNatClampNeg = nI (sd_c th k d) := by
  rw [nI_clamp (Nat.lt_trans (sd_b6 k hd) (by decide))]
  exact hc d hd _ (sd_ml k d)
theorem sd_kyX {post : Int32 → Prop} {k : Nat} (hk : k < 256) (h : post 1) : wpX_isKey post (nI k) :=
  br_f (nI_pos (by omega)) (br_f (nI_ge (b := 256) hk (by decide)) h)
theorem sd_knX {post : Int32 → Prop} {p : Int32} (hk : ¬ ∃ k, k < 256 ∧ p = nI k) (h : post 0) : wpX_isKey post p := by
  refine br_c (fun _ => h) fun h0 => br_c (fun _ => h) fun h1 => ?_
  obtain ⟨j, hj, rfl⟩ := nI_of h0
  refine absurd ⟨j, ?_, rfl⟩ hk
  by_cases z : j < 256
  · exact z
  · exact absurd (nI_le (a := 256) (b := j) (by omega) hj) h1
theorem sd_endX {post : Int32 → Prop} {k d : Nat} (hk : k < 256) (hd : d ≤ 8) (h : post (nI (2 ^ d + k % 2 ^ d))) : wpX_endingOf post (nI k) (nI d) := by
  intro x ex
  rw [sd_sh hd] at ex
  subst ex
  rw [sd_en hk hd]
  exact h
theorem sd_sizX {post : Int32 → Prop} {th va kw : Nat → Int32} (hc : sd_K th kw) (h : post (nI (sd_c th 0 0))) : wpX_size post (th, va, kw) := by
  unfold wpX_size
  dsimp only
  rw [← nI_0]
  refine sd_endX (k := 0) (d := 0) (by decide) (by decide) ⟨vp_in_nI (by decide) (by decide), ?_⟩
  rw [sd_kc hc 0 (by decide)]
  exact h
theorem sd_samX {post : Int32 → Prop} {a b d : Nat} (ha : a < 256) (hb : b < 256) (hd : d ≤ 6) (h1 : a % 2 ^ d = b % 2 ^ d → post 1) (h0 : a % 2 ^ d ≠ b % 2 ^ d → post 0) : wpX_sameEnding post (nI a) (nI b) (nI d) := by
  unfold wpX_sameEnding
  have ea := sd_b6 a hd
  have eb := sd_b6 b hd
  refine sd_endX ha (by omega) (sd_endX hb (by omega) ?_)
  exact pk_eq (2 ^ d + a % 2 ^ d) (2 ^ d + b % 2 ^ d) (fun e => h1 (Nat.add_left_cancel e)) (fun e => h0 fun z => e (by rw [z])) rfl rfl (by omega) (by omega)
theorem sd_depX_l {post : Int32 → Prop} {th va kw : Nat → Int32} (hc : sd_K th kw) {k : Nat} (hk : k < 256) : ∀ m d, m + d = 6 → post (nI (sd_dF th k m d)) → wX_bucketDepth_2 post (nI k) th va kw (m + 1) (nI d) := by
  intro m
  induction m with
  | zero =>
    intro d hd hp
    obtain rfl : d = 6 := by omega
    exact br_t (nI_le (a := 6) (b := 6) (by decide) (by decide)) hp
  | succ m ih =>
    intro d hd hp
    have hv := sd_kc hc k (d := d) (by omega)
    have hb := sd_c_le th k d
    rw [sd_dF] at hp
    refine br_f (nI_ge (b := 6) (by omega) (by decide)) (sd_endX hk (by omega) ⟨vp_in_nI (sd_b6 k (by omega)) (by decide), ?_⟩)
    refine pk_lt 4 (sd_c th k d) (fun h => nm_r (nI_1 d) (ih (d + 1) (by omega) ?_)) (fun h => ?_) rfl hv (by decide) (by omega)
    · rw [if_neg (by omega)] at hp; exact hp
    · rw [if_pos (by omega)] at hp; exact hp
theorem sd_depX {post : Int32 → Prop} {th va kw : Nat → Int32} (hc : sd_K th kw) {k : Nat} (hk : k < 256) (h : post (nI (sd_dp th k))) : wpX_bucketDepth post (th, va, kw) (nI k) :=
  ⟨7, sd_depX_l hc hk 6 0 rfl h⟩
theorem sd_odX {post : Int32 → Prop} {th va kw : Nat → Int32} (hc : sd_K th kw) {d : Nat} (hd : d ≤ 6) (h : post (nI (sd_od th d))) : wpX_ofDepth post (th, va, kw) (nI d) := by
  have h2 := sd_p6 hd
  refine br_f (nI_pos (by omega)) (br_t (nI_le (b := 6) hd (by decide)) ?_)
  refine loop_0 (fun n i s => wX_ofDepth_16 post (nI d) th va kw n s (nI i)) (fun i s => s = nI (sd_cn (fun e => decide (sd_dp th e = d)) i)) (2 ^ d) 0 rfl ?_ ?_
  · intro n s hs
    subst hs
    exact br_t (by rw [sd_sh (by omega)]; exact Int32.le_refl _) h
  · intro n i s hi hs ih
    subst hs
    have h6 := (sd_dp_s th i).1
    refine br_f (by rw [sd_sh (by omega)]; exact nI_ge hi (by omega)) ?_
    refine sd_depX hc (by omega) ?_
    refine pk_eq (sd_dp th i) d (fun e => nm_r (nI_1 _) (nm_r (nI_1 _) (ih _ ?_))) (fun e => nm_r (nI_1 _) (ih _ ?_)) rfl rfl (by omega) (by omega)
    · rw [sd_cs1 (decide_eq_true e)]
    · rw [sd_cs0 (decide_eq_false e)]
theorem sd_onX {post : Int32 → Prop} {th va kw : Nat → Int32} {p : Int32} (hp : ¬ ∃ d, d ≤ 6 ∧ p = nI d) (h : post 0) : wpX_ofDepth post (th, va, kw) p := by
  refine br_c (fun _ => h) fun h0 => br_c (fun h1 => ?_) fun _ => h
  obtain ⟨j, hj, rfl⟩ := nI_of h0
  refine absurd ⟨j, ?_, rfl⟩ hp
  exact (nI_leI (b := 6) hj (by decide)).mp h1
theorem sd_deeX {post : Int32 → Prop} {th va kw : Nat → Int32} (hc : sd_K th kw) (h : post (nI (sd_dd th 7))) : wpX_deepest post (th, va, kw) := by
  refine loop_0 (fun n i s => wX_deepest_4 post th va kw n s (nI i)) (fun i s => s = nI (sd_dd th i)) 7 0 rfl ?_ ?_
  · intro n s hs
    subst hs
    exact br_t (nI_lt (a := 6) (b := 7) (by decide) (by decide)) h
  · intro n i s hi hs ih
    subst hs
    have hb := sd_od_le th (d := i) (by omega)
    refine br_f (nI_nlt (a := 6) (b := i) (by omega) (by decide)) (sd_odX hc (by omega) ?_)
    refine pk_le (sd_od th i) 0 (fun z => nm_r (nI_1 i) (ih _ ?_)) (fun z => nm_r (nI_1 i) (ih _ ?_)) rfl rfl (by omega) (by decide)
    · rw [sd_dd, if_neg (by omega)]
    · rw [sd_dd, if_pos z]
theorem sd_cntX {post : SX → Prop} {th va kw : Nat → Int32} {k : Nat} (hk : k < 256) (ch : Int32) (h : ∀ kw', (∀ d, d ≤ 6 → ∀ e, e < 2 ^ d → kw' (2 ^ d + e) = if e = k % 2 ^ d then kw (2 ^ d + e) + ch else kw (2 ^ d + e)) → post (th, va, kw')) : wpX_countKey post (th, va, kw) (nI k) ch := by
  refine loop_0 (fun n i s => wX_countKey_2 post (nI k) ch n (nI i) th va s) (fun D s => ∀ d, d ≤ 6 → ∀ e, e < 2 ^ d → s (2 ^ d + e) = if d < D ∧ e = k % 2 ^ d then kw (2 ^ d + e) + ch else kw (2 ^ d + e)) 7 kw ?_ ?_ ?_
  · intro d _ e _
    rw [if_neg (fun z => absurd z.1 (Nat.not_lt_zero d))]
  · intro n s hs
    refine br_t (nI_lt (a := 6) (b := 7) (by decide) (by decide)) (h s fun d hd e he => ?_)
    rw [hs d hd e he]
    by_cases z : e = k % 2 ^ d
    · rw [if_pos z, if_pos ⟨by omega, z⟩]
    · rw [if_neg z, if_neg (fun y => z y.2)]
  · intro n D s hD hs ih
    have hcl := nI_clamp (n := 2 ^ D + k % 2 ^ D) (Nat.lt_trans (sd_b6 k (by omega)) (by decide))
    have hin : vp_in (nI (2 ^ D + k % 2 ^ D)) 128 := vp_in_nI (sd_b6 k (by omega)) (by decide)
    refine br_f (nI_nlt (a := 6) (b := D) (by omega) (by decide)) (sd_endX hk (by omega) ⟨hin, hin, nm_e (nm_r (nI_1 D) (ih _ ?_))⟩)
    intro d hd e he
    rw [hcl]
    by_cases z : 2 ^ d + e = 2 ^ D + k % 2 ^ D
    · obtain ⟨hdD, heD⟩ := sd_inj z he (sd_ml k D)
      subst hdD
      subst heD
      rw [pk_us, if_pos ⟨Nat.lt_succ_self d, rfl⟩, hs d hd _ he, if_neg (fun z => absurd z.1 (Nat.lt_irrefl d))]
    · rw [pk_un z, hs d hd e he]
      by_cases y : e = k % 2 ^ d
      · by_cases x : d < D
        · rw [if_pos ⟨x, y⟩, if_pos ⟨by omega, y⟩]
        · have hne : d ≠ D := fun q => z (by rw [y, q])
          rw [if_neg (fun w => x w.1), if_neg (fun w => absurd w.1 (by omega))]
      · rw [if_neg (fun w => y w.2), if_neg (fun w => y w.2)]
