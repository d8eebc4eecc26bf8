/-! the component's methods, each: its value's post gives the walk -/
def sd_K (th kw : Nat → Int32) : Prop := ∀ d, d ≤ 6 → ∀ e, e < 2 ^ d → kw (2 ^ d + e) = nI (sd_C th d e 256)
theorem sd_vb0 : vp_nar .boolean 0 = 0 := by decide
theorem sd_vb1 : vp_nar .boolean 1 = 1 := by decide
theorem sd_kc {th kw : Nat → Int32} (hc : sd_K th kw) (k : Nat) {d : Nat} (hd : d ≤ 6) : kw (nI (2 ^ d + k % 2 ^ d)).toNatClampNeg = nI (sd_c th k d) := by
  rw [nI_clamp (Nat.lt_trans (sd_b6 k hd) (by decide))]
  exact hc d hd _ (sd_ml k d)
theorem sd_kyX {post : Int32 → Prop} {k : Nat} (hk : k < 256) (h : post 1) : wpX_isKey post (nI k) :=
  br_f (nI_pos (by omega)) (br_f (nI_ge (b := 256) hk (by decide)) h)
theorem sd_knX {post : Int32 → Prop} {p : Int32} (hk : ¬ ∃ k, k < 256 ∧ p = nI k) (h : post 0) : wpX_isKey post p := by
  refine br_c (fun _ => h) fun h0 => br_c (fun _ => h) fun h1 => ?_
  obtain ⟨j, hj, rfl⟩ := nI_of h0
  refine absurd ⟨j, ?_, rfl⟩ hk
  by_cases z : j < 256
  · exact z
  · exact absurd (nI_le (a := 256) (b := j) (by omega) hj) h1
theorem sd_endX {post : Int32 → Prop} {k d : Nat} (hk : k < 256) (hd : d ≤ 8) (h : post (nI (2 ^ d + k % 2 ^ d))) : wpX_endingOf post (nI k) (nI d) := by
  intro x ex
  rw [sd_sh hd] at ex
  subst ex
  rw [sd_en hk hd]
  exact h
theorem sd_sizX {post : Int32 → Prop} {th va kw : Nat → Int32} (hc : sd_K th kw) (h : post (nI (sd_c th 0 0))) : wpX_size post (th, va, kw) := by
  unfold wpX_size
  dsimp only
  rw [← nI_0]
  refine sd_endX (k := 0) (d := 0) (by decide) (by decide) ⟨vp_in_nI (by decide) (by decide), ?_⟩
  rw [sd_kc hc 0 (by decide)]
  exact h
theorem sd_samX {post : Int32 → Prop} {a b d : Nat} (ha : a < 256) (hb : b < 256) (hd : d ≤ 6) (h1 : a % 2 ^ d = b % 2 ^ d → post 1) (h0 : a % 2 ^ d ≠ b % 2 ^ d → post 0) : wpX_sameEnding post (nI a) (nI b) (nI d) := by
  unfold wpX_sameEnding
  have ea := sd_b6 a hd
  have eb := sd_b6 b hd
  refine sd_endX ha (by omega) (sd_endX hb (by omega) ?_)
  exact pk_eq (2 ^ d + a % 2 ^ d) (2 ^ d + b % 2 ^ d) (fun e => h1 (Nat.add_left_cancel e)) (fun e => h0 fun z => e (by rw [z])) rfl rfl (by omega) (by omega)
theorem sd_depX_l {post : Int32 → Prop} {th va kw : Nat → Int32} (hc : sd_K th kw) {k : Nat} (hk : k < 256) : ∀ m d, m + d = 6 → post (nI (sd_dF th k m d)) → wX_bucketDepth_2 post (nI k) th va kw (m + 1) (nI d) := by
  intro m
  induction m with
  | zero =>
    intro d hd hp
    obtain rfl : d = 6 := by omega
    exact br_t (nI_le (a := 6) (b := 6) (by decide) (by decide)) hp
  | succ m ih =>
    intro d hd hp
    have hv := sd_kc hc k (d := d) (by omega)
    have hb := sd_c_le th k d
    rw [sd_dF] at hp
    refine br_f (nI_ge (b := 6) (by omega) (by decide)) (sd_endX hk (by omega) ⟨vp_in_nI (sd_b6 k (by omega)) (by decide), ?_⟩)
    refine pk_lt 4 (sd_c th k d) (fun h => nm_r (nI_1 d) (ih (d + 1) (by omega) ?_)) (fun h => ?_) rfl hv (by decide) (by omega)
    · rw [if_neg (by omega)] at hp; exact hp
    · rw [if_pos (by omega)] at hp; exact hp
theorem sd_depX {post : Int32 → Prop} {th va kw : Nat → Int32} (hc : sd_K th kw) {k : Nat} (hk : k < 256) (h : post (nI (sd_dp th k))) : wpX_bucketDepth post (th, va, kw) (nI k) :=
  ⟨7, sd_depX_l hc hk 6 0 rfl h⟩
theorem sd_odX {post : Int32 → Prop} {th va kw : Nat → Int32} (hc : sd_K th kw) {d : Nat} (hd : d ≤ 6) (h : post (nI (sd_od th d))) : wpX_ofDepth post (th, va, kw) (nI d) := by
  have h2 := sd_p6 hd
  refine br_f (nI_pos (by omega)) (br_t (nI_le (b := 6) hd (by decide)) ?_)
  refine loop_0 (fun n i s => wX_ofDepth_16 post (nI d) th va kw n s (nI i)) (fun i s => s = nI (sd_cn (fun e => decide (sd_dp th e = d)) i)) (2 ^ d) 0 rfl ?_ ?_
  · intro n s hs
    subst hs
    exact br_t (by rw [sd_sh (by omega)]; exact Int32.le_refl _) h
  · intro n i s hi hs ih
    subst hs
    have h6 := (sd_dp_s th i).1
    refine br_f (by rw [sd_sh (by omega)]; exact nI_ge hi (by omega)) ?_
    refine sd_depX hc (by omega) ?_
    refine pk_eq (sd_dp th i) d (fun e => nm_r (nI_1 _) (nm_r (nI_1 _) (ih _ ?_))) (fun e => nm_r (nI_1 _) (ih _ ?_)) rfl rfl (by omega) (by omega)
    · rw [sd_cs1 (decide_eq_true e)]
    · rw [sd_cs0 (decide_eq_false e)]
theorem sd_onX {post : Int32 → Prop} {th va kw : Nat → Int32} {p : Int32} (hp : ¬ ∃ d, d ≤ 6 ∧ p = nI d) (h : post 0) : wpX_ofDepth post (th, va, kw) p := by
  refine br_c (fun _ => h) fun h0 => br_c (fun h1 => ?_) fun _ => h
  obtain ⟨j, hj, rfl⟩ := nI_of h0
  refine absurd ⟨j, ?_, rfl⟩ hp
  exact (nI_leI (b := 6) hj (by decide)).mp h1
theorem sd_deeX {post : Int32 → Prop} {th va kw : Nat → Int32} (hc : sd_K th kw) (h : post (nI (sd_dd th 7))) : wpX_deepest post (th, va, kw) := by
  refine loop_0 (fun n i s => wX_deepest_4 post th va kw n s (nI i)) (fun i s => s = nI (sd_dd th i)) 7 0 rfl ?_ ?_
  · intro n s hs
    subst hs
    exact br_t (nI_lt (a := 6) (b := 7) (by decide) (by decide)) h
  · intro n i s hi hs ih
    subst hs
    have hb := sd_od_le th (d := i) (by omega)
    refine br_f (nI_nlt (a := 6) (b := i) (by omega) (by decide)) (sd_odX hc (by omega) ?_)
    refine pk_le (sd_od th i) 0 (fun z => nm_r (nI_1 i) (ih _ ?_)) (fun z => nm_r (nI_1 i) (ih _ ?_)) rfl rfl (by omega) (by decide)
    · rw [sd_dd, if_neg (by omega)]
    · rw [sd_dd, if_pos z]
theorem sd_cntX {post : SX → Prop} {th va kw : Nat → Int32} {k : Nat} (hk : k < 256) (ch : Int32) (h : ∀ kw', (∀ d, d ≤ 6 → ∀ e, e < 2 ^ d → kw' (2 ^ d + e) = if e = k % 2 ^ d then kw (2 ^ d + e) + ch else kw (2 ^ d + e)) → post (th, va, kw')) : wpX_countKey post (th, va, kw) (nI k) ch := by
  refine loop_0 (fun n i s => wX_countKey_2 post (nI k) ch n (nI i) th va s) (fun D s => ∀ d, d ≤ 6 → ∀ e, e < 2 ^ d → s (2 ^ d + e) = if d < D ∧ e = k % 2 ^ d then kw (2 ^ d + e) + ch else kw (2 ^ d + e)) 7 kw ?_ ?_ ?_
  · intro d _ e _
    rw [if_neg (fun z => absurd z.1 (Nat.not_lt_zero d))]
  · intro n s hs
    refine br_t (nI_lt (a := 6) (b := 7) (by decide) (by decide)) (h s fun d hd e he => ?_)
    rw [hs d hd e he]
    by_cases z : e = k % 2 ^ d
    · rw [if_pos z, if_pos ⟨by omega, z⟩]
    · rw [if_neg z, if_neg (fun y => z y.2)]
  · intro n D s hD hs ih
    have hcl := nI_clamp (n := 2 ^ D + k % 2 ^ D) (Nat.lt_trans (sd_b6 k (by omega)) (by decide))
    have hin : vp_in (nI (2 ^ D + k % 2 ^ D)) 128 := vp_in_nI (sd_b6 k (by omega)) (by decide)
    refine br_f (nI_nlt (a := 6) (b := D) (by omega) (by decide)) (sd_endX hk (by omega) ⟨hin, hin, nm_e (nm_r (nI_1 D) (ih _ ?_))⟩)
    intro d hd e he
    rw [hcl]
    by_cases z : 2 ^ d + e = 2 ^ D + k % 2 ^ D
    · obtain ⟨hdD, heD⟩ := sd_inj z he (sd_ml k D)
      subst hdD
      subst heD
      rw [pk_us, if_pos ⟨Nat.lt_succ_self d, rfl⟩, hs d hd _ he, if_neg (fun z => absurd z.1 (Nat.lt_irrefl d))]
    · rw [pk_un z, hs d hd e he]
      by_cases y : e = k % 2 ^ d
      · by_cases x : d < D
        · rw [if_pos ⟨x, y⟩, if_pos ⟨by omega, y⟩]
        · have hne : d ≠ D := fun q => z (by rw [y, q])
          rw [if_neg (fun w => x w.1), if_neg (fun w => absurd w.1 (by omega))]
      · rw [if_neg (fun w => y w.2), if_neg (fun w => y w.2)]
theorem sd_bkX_e {th kw : Nat → Int32} (hc : sd_K th kw) : 1 + sd_cn (fun j => decide (¬ kw (1 + j) ≤ (4 : Int32))) 63 = sd_bk th := by
  have hM : ∀ d, d ≤ 5 → sd_cn (fun i => decide (¬ kw (2 ^ d + i) ≤ (4 : Int32))) (2 ^ d) = sd_M th d := by
    intro d hd
    refine sd_cn_cg fun i hi => decide_eq_decide.mpr ?_
    have hb := sd_C_le th d i 256
    rw [hc d (by omega) i hi, show (4 : Int32) = nI 4 from rfl, nI_leI (by omega) (by decide)]
    omega
  have h0 := hM 0 (by decide)
  have h1 := hM 1 (by decide)
  have h2 := hM 2 (by decide)
  have h3 := hM 3 (by decide)
  have h4 := hM 4 (by decide)
  have h5 := hM 5 (by decide)
  have s5 := sd_cn_ad (fun j => decide (¬ kw (1 + j) ≤ (4 : Int32))) 31 32
  have s4 := sd_cn_ad (fun j => decide (¬ kw (1 + j) ≤ (4 : Int32))) 15 16
  have s3 := sd_cn_ad (fun j => decide (¬ kw (1 + j) ≤ (4 : Int32))) 7 8
  have s2 := sd_cn_ad (fun j => decide (¬ kw (1 + j) ≤ (4 : Int32))) 3 4
  have s1 := sd_cn_ad (fun j => decide (¬ kw (1 + j) ≤ (4 : Int32))) 1 2
  simp only [← Nat.add_assoc, Nat.reduceAdd, Nat.reducePow] at h0 h1 h2 h3 h4 h5 s1 s2 s3 s4 s5
  rw [sd_bk, s5, s4, s3, s2, s1, h0, h1, h2, h3, h4, h5]
theorem sd_bkX {post : Int32 → Prop} {th va kw : Nat → Int32} (hc : sd_K th kw) (h : post (nI (sd_bk th))) : wpX_buckets post (th, va, kw) := by
  refine loop_0 (fun n i s => wX_buckets_4 post th va kw n s (nI (1 + i))) (fun i s => s = nI (1 + sd_cn (fun j => decide (¬ kw (1 + j) ≤ (4 : Int32))) i)) 63 1 rfl ?_ ?_
  · intro n s hs
    rw [sd_bkX_e hc] at hs
    subst hs
    exact br_t (nI_le (a := 64) (b := 1 + 63) (by decide) (by decide)) h
  · intro n i s hi hs ih
    subst hs
    have hcl := nI_clamp (n := 1 + i) (by omega)
    refine br_f (nI_ge (b := 64) (by omega) (by decide)) ⟨vp_in_nI (by omega) (by decide), ?_⟩
    rw [hcl]
    refine br_c (fun z => nm_r (nI_1 _) (ih _ ?_)) (fun z => nm_r (nI_1 _) (nm_r (nI_1 _) (ih _ ?_)))
    · rw [sd_cs0 (decide_eq_false fun w => w z)]
    · rw [sd_cs1 (decide_eq_true z), Nat.add_assoc]
theorem sd_hasX1 {post : Int32 → Prop} {th va kw : Nat → Int32} {k : Nat} (hk : k < 256) (h0 : th k = 0 → post 0) (h1 : th k ≠ 0 → post 1) : wpX_has post (th, va, kw) (nI k) := by
  unfold wpX_has
  dsimp only
  refine sd_kyX hk (br_f (by decide) ⟨vp_in_nI hk (by decide), ?_⟩)
  rw [nI_clamp (by omega)]
  exact br_c h0 h1
theorem sd_hasXn {post : Int32 → Prop} {th va kw : Nat → Int32} {p : Int32} (hk : ¬ ∃ k, k < 256 ∧ p = nI k) (h : post 0) : wpX_has post (th, va, kw) p := by
  unfold wpX_has
  dsimp only
  exact sd_knX hk (br_t rfl h)
theorem sd_remXn {post : Int32 → SX → Prop} {th va kw : Nat → Int32} {p : Int32} (hk : ¬ ∃ k, k < 256 ∧ p = nI k) (h : post (-1) (th, va, kw)) : wpX_remove post (th, va, kw) p := by
  unfold wpX_remove
  dsimp only
  exact sd_hasXn hk (br_t rfl h)
theorem sd_remX0 {post : Int32 → SX → Prop} {th va kw : Nat → Int32} {k : Nat} (hk : k < 256) (h0 : th k = 0) (h : post (-1) (th, va, kw)) : wpX_remove post (th, va, kw) (nI k) := by
  unfold wpX_remove
  dsimp only
  exact sd_hasX1 hk (fun _ => br_t rfl h) (fun z => absurd h0 z)
theorem sd_remX1 {post : Int32 → SX → Prop} {th va kw : Nat → Int32} (hc : sd_K th kw) {k : Nat} (hk : k < 256) (h1 : th k = 1) (h : ∀ kw', sd_K (upd th k 0) kw' → post (nI (sd_bk (upd th k 0))) (upd th k 0, va, kw')) : wpX_remove post (th, va, kw) (nI k) := by
  unfold wpX_remove
  dsimp only
  refine sd_hasX1 hk (fun z => absurd (h1.symm.trans z) (by decide)) (fun _ => br_f (by decide) ⟨vp_in_nI hk (by decide), ?_⟩)
  rw [nI_clamp (by omega), sd_vb0]
  refine nm_e (sd_cntX hk (-1) fun kw' hw => ?_)
  dsimp only
  have hc' : sd_K (upd th k 0) kw' := by
    intro d hd e he
    have hC := sd_Cdn h1 hk d e
    rw [hw d hd e he, hc d hd e he, hC]
    by_cases z : e = k % 2 ^ d
    · rw [if_pos z, if_pos z, pk_m1]
    · rw [if_neg z, if_neg z, Nat.add_zero]
  exact sd_bkX hc' (h kw' hc')
theorem sd_putXn {post : Int32 → SX → Prop} {th va kw : Nat → Int32} {p v : Int32} (hk : ¬ ∃ k, k < 256 ∧ p = nI k) (h : post (-1) (th, va, kw)) : wpX_put post (th, va, kw) p v := by
  unfold wpX_put
  dsimp only
  exact sd_knX hk (br_t rfl h)
theorem sd_pu4X {post : Int32 → SX → Prop} {th va kw : Nat → Int32} (hc : sd_K th kw) {k : Nat} (hk : k < 256) {v : Int32} (h : post (nI (sd_bk th)) (th, upd va k v, kw)) : wX_put_43 post (nI k) v th va kw := by
  refine ⟨vp_in_nI hk (by decide), ?_⟩
  rw [nI_clamp (by omega)]
  exact nm_e (sd_bkX hc h)
theorem sd_putX1 {post : Int32 → SX → Prop} {th va kw : Nat → Int32} (hc : sd_K th kw) {k : Nat} (hk : k < 256) {v : Int32} (h1 : th k ≠ 0) (h : post (nI (sd_bk th)) (th, upd va k v, kw)) : wpX_put post (th, va, kw) (nI k) v := by
  unfold wpX_put
  dsimp only
  refine sd_kyX hk (br_f (by decide) ⟨vp_in_nI hk (by decide), ?_⟩)
  rw [nI_clamp (by omega)]
  exact br_f h1 (sd_pu4X hc hk h)
theorem sd_putX0 {post : Int32 → SX → Prop} {th va kw : Nat → Int32} (hc : sd_K th kw) {k : Nat} (hk : k < 256) {v : Int32} (h0 : th k = 0) (hf : 40 ≤ sd_c th 0 0 → post (-2) (th, va, kw)) (h : sd_c th 0 0 < 40 → ∀ kw', sd_K (upd th k 1) kw' → post (nI (sd_bk (upd th k 1))) (upd th k 1, upd va k v, kw')) : wpX_put post (th, va, kw) (nI k) v := by
  have hb := sd_c_le th 0 0
  unfold wpX_put
  dsimp only
  refine sd_kyX hk (br_f (by decide) ⟨vp_in_nI hk (by decide), ?_⟩)
  rw [nI_clamp (by omega)]
  refine br_t h0 (sd_sizX hc ?_)
  refine pk_lt (sd_c th 0 0) 40 (fun z => ⟨vp_in_nI hk (by decide), ?_⟩) hf rfl rfl (by omega) (by decide)
  rw [sd_vb1]
  refine nm_e (sd_cntX hk 1 fun kw' hw => ?_)
  dsimp only
  have hc' : sd_K (upd th k 1) kw' := by
    intro d hd e he
    have hC := sd_Cup h0 hk d e
    rw [hw d hd e he, hc d hd e he, hC]
    by_cases y : e = k % 2 ^ d
    · rw [if_pos y, if_pos y, nI_1]
    · rw [if_neg y, if_neg y, Nat.add_zero]
  exact sd_pu4X hc' hk (h z kw' hc')
theorem sd_groXn {post : Int32 → Prop} {th va kw : Nat → Int32} {p : Int32} (hk : ¬ ∃ k, k < 256 ∧ p = nI k) (h : post (-1)) : wpX_growth post (th, va, kw) p := by
  unfold wpX_growth
  dsimp only
  exact sd_knX hk (br_t rfl h)
theorem sd_groX {post : Int32 → Prop} {th va kw : Nat → Int32} (hc : sd_K th kw) {k : Nat} (hk : k < 256) (h1 : th k ≠ 0 → post 0) (h0 : th k = 0 → post (nI (sd_cn (fun d => decide (sd_c th k d = 4)) 6))) : wpX_growth post (th, va, kw) (nI k) := by
  unfold wpX_growth
  dsimp only
  refine sd_kyX hk (br_f (by decide) ⟨vp_in_nI hk (by decide), ?_⟩)
  rw [nI_clamp (by omega)]
  refine br_c (fun z => ?_) h1
  refine loop_0 (fun n i s => wX_growth_24 post (nI k) th va kw n s (nI i)) (fun i s => s = nI (sd_cn (fun d => decide (sd_c th k d = 4)) i)) 6 0 rfl ?_ ?_
  · intro n s hs
    subst hs
    exact br_t (nI_le (a := 6) (b := 6) (by decide) (by decide)) (h0 z)
  · intro n d s hd hs ih
    subst hs
    have hv := sd_kc hc k (d := d) (by omega)
    have hb := sd_c_le th k d
    refine br_f (nI_ge (b := 6) hd (by decide)) (sd_endX hk (by omega) ⟨vp_in_nI (sd_b6 k (by omega)) (by decide), ?_⟩)
    refine pk_eq (sd_c th k d) 4 (fun e => nm_r (nI_1 _) (nm_r (nI_1 _) (ih _ ?_))) (fun e => nm_r (nI_1 _) (ih _ ?_)) hv rfl (by omega) (by decide)
    · rw [sd_cs1 (decide_eq_true e)]
    · rw [sd_cs0 (decide_eq_false e)]
