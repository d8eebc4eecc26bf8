/-! the reference's methods, each: its value's post (for every count array) gives the walk -/
def sd_Y (th cn : Nat → Int32) : Prop := ∀ d, d ≤ 8 → ∀ e, e < 2 ^ d → cn (2 ^ d - 1 + e) = nI (sd_C th d e 256)
theorem sd_yc {th cn : Nat → Int32} (hy : sd_Y th cn) (k : Nat) {d : Nat} (hd : d ≤ 8) : cn (nI (2 ^ d - 1 + k % 2 ^ d)).toNatClampNeg = nI (sd_c th k d) := by
  rw [nI_clamp (Nat.lt_trans (sd_b8 k hd) (by decide))]
  exact hy d hd _ (sd_ml k d)
theorem sd_kyY {post : Int32 → Prop} {th va cn : Nat → Int32} {k : Nat} (hk : k < 256) (h : post 1) : wpY_key post (th, va, cn) (nI k) :=
  br_f (nI_pos (by omega)) (br_f (nI_nlt (a := 255) (by omega) (by decide)) h)
theorem sd_knY {post : Int32 → Prop} {th va cn : Nat → Int32} {p : Int32} (hk : ¬ ∃ k, k < 256 ∧ p = nI k) (h : post 0) : wpY_key post (th, va, cn) p := by
  refine br_c (fun _ => h) fun h0 => br_c (fun _ => h) fun h1 => ?_
  obtain ⟨j, hj, rfl⟩ := nI_of h0
  refine absurd ⟨j, ?_, rfl⟩ hk
  by_cases z : j < 256
  · exact z
  · exact absurd (nI_lt (a := 255) (b := j) (by omega) hj) h1
theorem sd_endY {post : Int32 → Prop} {th va cn : Nat → Int32} {k d : Nat} (hk : k < 256) (hd : d ≤ 8) (h : post (nI (2 ^ d - 1 + k % 2 ^ d))) : wpY_ending post (th, va, cn) (nI k) (nI d) := by
  unfold wpY_ending
  dsimp only
  rw [sd_sh hd, sd_ey hk hd]
  exact h
theorem sd_c33 {post : SY → Prop} {J : Int32 → (Nat → Int32) → (Nat → Int32) → (Nat → Int32) → Prop} {th va cn : Nat → Int32} {i : Nat} (hi : i < 256) (hs : ∀ d, d ≤ 8 → ∀ e, e < 2 ^ d → cn (2 ^ d - 1 + e) = nI (sd_C th d e i)) (h : ∀ cn', (∀ d, d ≤ 8 → ∀ e, e < 2 ^ d → cn' (2 ^ d - 1 + e) = nI (sd_C th d e (i + 1))) → J (nI (i + 1)) th va cn') : ∃ n, wY_count_33 post J (nI i) n 0 th va cn := by
  have hci := nI_clamp (n := i) (by omega)
  have hin : vp_in (nI i) 256 := vp_in_nI hi (by decide)
  by_cases z : th i = 0
  · refine ⟨1, br_f (by decide) ⟨hin, br_t (by rw [hci]; exact z) (nm_r (nI_1 i) (h cn fun d hd e he => ?_))⟩⟩
    rw [hs d hd e he, sd_C, sd_C, sd_cs0 (decide_eq_false fun w => w.1 z)]
  · refine loop_0 (fun n D s => wY_count_33 post J (nI i) n (nI D) th va s) (fun D s => ∀ d, d ≤ 8 → ∀ e, e < 2 ^ d → s (2 ^ d - 1 + e) = nI (if d < D then sd_C th d e (i + 1) else sd_C th d e i)) 9 cn ?_ ?_ ?_
    · intro d hd e he
      rw [if_neg (Nat.not_lt_zero d), hs d hd e he]
    · intro n s hS
      refine br_t (nI_lt (a := 8) (b := 9) (by decide) (by decide)) (nm_r (nI_1 i) (h s fun d hd e he => ?_))
      rw [hS d hd e he, if_pos (by omega)]
    · intro n D s hD hS ih
      have hcl := nI_clamp (n := 2 ^ D - 1 + i % 2 ^ D) (Nat.lt_trans (sd_b8 i (by omega)) (by decide))
      have hix : vp_in (nI (2 ^ D - 1 + i % 2 ^ D)) 511 := vp_in_nI (sd_b8 i (by omega)) (by decide)
      refine br_f (nI_nlt (a := 8) (b := D) (by omega) (by decide)) ⟨hin, br_f (by rw [hci]; exact z) (sd_endY hi (by omega) ⟨hix, hix, nm_e (nm_r (nI_1 D) (ih _ ?_))⟩)⟩
      intro d hd e he
      rw [hcl]
      by_cases w : 2 ^ d - 1 + e = 2 ^ D - 1 + i % 2 ^ D
      · have p1 := Nat.two_pow_pos d
        have p2 := Nat.two_pow_pos D
        obtain ⟨hdD, heD⟩ := sd_inj (d := d) (e := e) (d' := D) (e' := i % 2 ^ D) (by omega) he (sd_ml i D)
        subst hdD
        subst heD
        rw [pk_us, if_pos (Nat.lt_succ_self d), hS d hd _ he, if_neg (Nat.lt_irrefl d), nI_1, sd_C, sd_C, sd_cs1 (decide_eq_true ⟨z, rfl⟩)]
      · rw [pk_un w, hS d hd e he]
        by_cases x : d < D
        · rw [if_pos x, if_pos (by omega)]
        · rw [if_neg x]
          by_cases y : d = D
          · subst y
            rw [if_pos (Nat.lt_succ_self d), sd_C, sd_C, sd_cs0 (decide_eq_false fun v => w (by rw [v.2]))]
          · rw [if_neg (by omega)]
theorem sd_c24 {post : SY → Prop} {th va cn : Nat → Int32} (hz : ∀ j, j < 511 → cn j = 0) (h : ∀ cn', sd_Y th cn' → post (th, va, cn')) : ∃ n, wY_count_24 post n 0 th va cn := by
  refine loop_0 (fun n i s => wY_count_24 post n (nI i) th va s) (fun i s => ∀ d, d ≤ 8 → ∀ e, e < 2 ^ d → s (2 ^ d - 1 + e) = nI (sd_C th d e i)) 256 cn ?_ ?_ ?_
  · intro d hd e he
    have h8 := sd_p8 hd
    rw [hz (2 ^ d - 1 + e) (by omega)]
    exact nI_0.symm
  · intro n s hs
    exact br_t (nI_le (a := 256) (b := 256) (by decide) (by decide)) (h s hs)
  · intro n i s hi hs ih
    exact br_f (nI_ge (b := 256) hi (by decide)) (sd_c33 hi hs ih)
theorem sd_cntY {post : SY → Prop} {th va cn : Nat → Int32} (h : ∀ cn', sd_Y th cn' → post (th, va, cn')) : wpY_count post (th, va, cn) := by
  refine loop_0 (fun n i s => wY_count_2 post n (nI i) th va s) (fun i s => ∀ j, j < i → s j = 0) 511 cn (fun j hj => absurd hj (Nat.not_lt_zero j)) ?_ ?_
  · intro n s hs
    exact br_t (nI_le (a := 511) (b := 511) (by decide) (by decide)) (sd_c24 hs h)
  · intro n i s hi hs ih
    refine br_f (nI_ge (b := 511) hi (by decide)) ⟨vp_in_nI hi (by decide), ?_⟩
    rw [nI_clamp (by omega)]
    refine nm_e (nm_r (nI_1 i) (ih _ fun j hj => ?_))
    by_cases e : j = i
    · subst e; rw [pk_us]
    · rw [pk_un e]; exact hs j (by omega)
theorem sd_isbY {post : Int32 → Prop} {th va cn : Nat → Int32} (hy : sd_Y th cn) {k d : Nat} (hk : k < 256) (hd : d ≤ 8) (h1 : sd_dp th k = d → post 1) (h0 : sd_dp th k ≠ d → post 0) : wpY_isBucket post (th, va, cn) (nI k) (nI d) := by
  have hv := sd_yc hy k hd
  have hl := sd_ltd th k d
  have hb := sd_c_le th k d
  unfold wpY_isBucket
  dsimp only
  refine sd_endY hk hd ⟨vp_in_nI (sd_b8 k hd) (by decide), pk_lt 4 (sd_c th k d) (fun z => h0 (by omega)) (fun z => ?_) rfl hv (by decide) (by omega)⟩
  refine pk_eq d 0 (fun y => h1 (by omega)) (fun y => ?_) rfl rfl (by omega) (by decide)
  obtain ⟨d', rfl⟩ : ∃ d', d = d' + 1 := ⟨d - 1, by omega⟩
  rw [nI_pred]
  have hl' := sd_ltd th k d'
  have hb' := sd_c_le th k d'
  exact sd_endY hk (by omega) ⟨vp_in_nI (sd_b8 k (by omega)) (by decide), pk_le (sd_c th k d') 4 (fun x => h0 (by omega)) (fun x => h1 (by omega)) (sd_yc hy k (by omega)) rfl (by omega) (by decide)⟩
theorem sd_sizY {post : Int32 → Prop} {th va cn : Nat → Int32} (h : post (nI (sd_c th 0 0))) : wpY_size post (th, va, cn) := by
  refine loop_0 (fun n i s => wY_size_4 post th va cn n s (nI i)) (fun i s => s = nI (sd_C th 0 0 i)) 256 0 rfl ?_ ?_
  · intro n s hs
    subst hs
    exact br_t (nI_le (a := 256) (b := 256) (by decide) (by decide)) h
  · intro n i s hi hs ih
    subst hs
    have hci := nI_clamp (n := i) (by omega)
    refine br_f (nI_ge (b := 256) hi (by decide)) ⟨vp_in_nI hi (by decide), ?_⟩
    rw [hci]
    refine br_c (fun z => nm_r (nI_1 _) (ih _ ?_)) (fun z => nm_r (nI_1 _) (nm_r (nI_1 _) (ih _ ?_)))
    · rw [sd_C, sd_C, sd_cs0 (decide_eq_false fun w => w.1 z)]
    · rw [sd_C, sd_C, sd_cs1 (decide_eq_true ⟨z, Nat.mod_one i⟩)]
theorem sd_odY {post : Int32 → SY → Prop} {th va cn : Nat → Int32} {d : Nat} (hd : d ≤ 8) (h : ∀ cn', post (nI (sd_od th d)) (th, va, cn')) : wpY_ofDepth post (th, va, cn) (nI d) := by
  have h2 := sd_p8 hd
  unfold wpY_ofDepth
  dsimp only
  refine sd_cntY fun cn' hy => ?_
  dsimp only
  refine loop_0 (fun n i s => wY_ofDepth_8 post (nI d) th va cn' n s (nI i)) (fun i s => s = nI (sd_cn (fun e => decide (sd_dp th e = d)) i)) (2 ^ d) 0 rfl ?_ ?_
  · intro n s hs
    subst hs
    exact br_f (nI_pos (by omega)) (br_f (nI_nlt (a := 8) hd (by decide)) (br_t (by rw [sd_sh hd]; exact Int32.le_refl _) (h cn')))
  · intro n i s hi hs ih
    subst hs
    refine br_f (nI_pos (by omega)) (br_f (nI_nlt (a := 8) hd (by decide)) (br_f (by rw [sd_sh hd]; exact nI_ge hi (by omega)) ?_))
    refine sd_isbY hy (by omega) hd (fun e => ?_) (fun e => ?_)
    · refine br_f (by decide) (nm_r (nI_1 _) (nm_r (nI_1 _) (ih _ ?_)))
      rw [sd_cs1 (decide_eq_true e)]
    · refine br_t rfl (nm_r (nI_1 _) (ih _ ?_))
      rw [sd_cs0 (decide_eq_false e)]
theorem sd_onY {post : Int32 → SY → Prop} {th va cn : Nat → Int32} {p : Int32} (hp : ¬ ∃ d, d ≤ 8 ∧ p = nI d) (h : ∀ cn', post 0 (th, va, cn')) : wpY_ofDepth post (th, va, cn) p := by
  unfold wpY_ofDepth
  dsimp only
  refine sd_cntY fun cn' hy => ?_
  dsimp only
  refine ⟨1, br_c (fun _ => h cn') fun h0 => br_c (fun _ => h cn') fun h1 => ?_⟩
  obtain ⟨j, hj, rfl⟩ := nI_of h0
  refine absurd ⟨j, ?_, rfl⟩ hp
  by_cases z : j ≤ 8
  · exact z
  · exact absurd (nI_lt (a := 8) (b := j) (by omega) hj) h1
theorem sd_bkY {post : Int32 → SY → Prop} {th va cn : Nat → Int32} (h : ∀ cn', post (nI (sd_bk th)) (th, va, cn')) : wpY_buckets post (th, va, cn) := by
  refine loop_0 (fun n i (s : Int32 × (Nat → Int32)) => wY_buckets_4 post n s.1 (nI i) th va s.2) (fun i s => s.1 = nI (sd_su th i)) 9 (0, cn) rfl ?_ ?_
  · intro n s hs
    obtain ⟨s1, s2⟩ := s
    dsimp only at hs
    rw [sd_sum] at hs
    subst hs
    exact br_t (nI_lt (a := 8) (b := 9) (by decide) (by decide)) (h s2)
  · intro n i s hi hs ih
    obtain ⟨s1, s2⟩ := s
    dsimp only at hs
    subst hs
    refine br_f (nI_nlt (a := 8) (b := i) (by omega) (by decide)) (sd_odY (by omega) fun cn' => ?_)
    dsimp only
    exact nm_r (nI_add _ _) (nm_r (nI_1 i) (ih (nI (sd_su th i + sd_od th i), cn') rfl))
theorem sd_deeY {post : Int32 → SY → Prop} {th va cn : Nat → Int32} (h : ∀ cn', post (nI (sd_dd th 7)) (th, va, cn')) : wpY_deepest post (th, va, cn) := by
  refine loop_0 (fun n i (s : Int32 × (Nat → Int32)) => wY_deepest_4 post n s.1 (nI i) th va s.2) (fun i s => s.1 = nI (sd_dd th i)) 9 (0, cn) rfl ?_ ?_
  · intro n s hs
    obtain ⟨s1, s2⟩ := s
    dsimp only at hs
    rw [sd_dd9] at hs
    subst hs
    exact br_t (nI_lt (a := 8) (b := 9) (by decide) (by decide)) (h s2)
  · intro n i s hi hs ih
    obtain ⟨s1, s2⟩ := s
    dsimp only at hs
    subst hs
    have hb := sd_od_le th (d := i) (by omega)
    refine br_f (nI_nlt (a := 8) (b := i) (by omega) (by decide)) (sd_odY (by omega) fun cn' => ?_)
    dsimp only
    refine pk_le (sd_od th i) 0 (fun z => nm_r (nI_1 i) (ih (nI (sd_dd th i), cn') ?_)) (fun z => nm_r (nI_1 i) (ih (nI i, cn') ?_)) rfl rfl (by omega) (by decide)
    · dsimp only
      rw [sd_dd, if_neg (by omega)]
    · dsimp only
      rw [sd_dd, if_pos z]
theorem sd_depY_l {post : Int32 → SY → Prop} {th va cn : Nat → Int32} (hy : sd_Y th cn) {k : Nat} (hk : k < 256) (h : post (nI (sd_dp th k)) (th, va, cn)) : ∀ m d, d + m = sd_dp th k → wY_depthOf_6 post (nI k) th va cn (m + 1) (nI d) := by
  have h6 := (sd_dp_s th k).1
  intro m
  induction m with
  | zero =>
    intro d hd
    obtain rfl : d = sd_dp th k := hd
    exact br_f (nI_nlt (a := 8) (by omega) (by decide)) (sd_kyY hk (br_f (by decide) (sd_isbY hy hk (by omega) (fun _ => br_f (by decide) h) (fun e => absurd rfl e))))
  | succ m ih =>
    intro d hd
    exact br_f (nI_nlt (a := 8) (by omega) (by decide)) (sd_kyY hk (br_f (by decide) (sd_isbY hy hk (by omega) (fun e => absurd e (by omega)) (fun _ => br_t rfl (nm_r (nI_1 d) (ih (d + 1) (by omega)))))))
theorem sd_depY {post : Int32 → SY → Prop} {th va cn : Nat → Int32} {k : Nat} (hk : k < 256) (h : ∀ cn', sd_Y th cn' → post (nI (sd_dp th k)) (th, va, cn')) : wpY_depthOf post (th, va, cn) (nI k) := by
  unfold wpY_depthOf
  dsimp only
  refine sd_cntY fun cn' hy => ?_
  dsimp only
  exact ⟨_, sd_depY_l hy hk (h cn' hy) (sd_dp th k) 0 (Nat.zero_add _)⟩
theorem sd_dpnY {post : Int32 → SY → Prop} {th va cn : Nat → Int32} {p : Int32} (hk : ¬ ∃ k, k < 256 ∧ p = nI k) (h : ∀ cn', post (-1) (th, va, cn')) : wpY_depthOf post (th, va, cn) p := by
  unfold wpY_depthOf
  dsimp only
  refine sd_cntY fun cn' hy => ?_
  dsimp only
  exact ⟨1, br_f (by decide) (sd_knY hk (br_t rfl (h cn')))⟩
theorem sd_hasY1 {post : Int32 → Prop} {th va cn : Nat → Int32} {k : Nat} (hk : k < 256) (h0 : th k = 0 → post 0) (h1 : th k ≠ 0 → post 1) : wpY_has post (th, va, cn) (nI k) := by
  unfold wpY_has
  dsimp only
  refine sd_kyY hk (br_f (by decide) ⟨vp_in_nI hk (by decide), ?_⟩)
  rw [nI_clamp (by omega)]
  exact br_c h0 h1
theorem sd_hasYn {post : Int32 → Prop} {th va cn : Nat → Int32} {p : Int32} (hk : ¬ ∃ k, k < 256 ∧ p = nI k) (h : post 0) : wpY_has post (th, va, cn) p := by
  unfold wpY_has
  dsimp only
  exact sd_knY hk (br_t rfl h)
theorem sd_pu3Y {post : Int32 → SY → Prop} {th va cn : Nat → Int32} {k : Nat} (hk : k < 256) {v : Int32} (h : ∀ cn', post (nI (sd_bk (upd th k 1))) (upd th k 1, upd va k v, cn')) : wY_put_31 post (nI k) v th va cn := by
  refine ⟨vp_in_nI hk (by decide), ?_⟩
  rw [nI_clamp (by omega), sd_vb1]
  exact nm_e ⟨vp_in_nI hk (by decide), nm_e (sd_bkY h)⟩
theorem sd_putYn {post : Int32 → SY → Prop} {th va cn : Nat → Int32} {p v : Int32} (hk : ¬ ∃ k, k < 256 ∧ p = nI k) (h : post (-1) (th, va, cn)) : wpY_put post (th, va, cn) p v := by
  unfold wpY_put
  dsimp only
  exact sd_knY hk (br_t rfl h)
theorem sd_putY {post : Int32 → SY → Prop} {th va cn : Nat → Int32} {k : Nat} (hk : k < 256) {v : Int32} (hf : th k = 0 → 40 ≤ sd_c th 0 0 → post (-2) (th, va, cn)) (h : (th k = 0 → sd_c th 0 0 < 40) → ∀ cn', post (nI (sd_bk (upd th k 1))) (upd th k 1, upd va k v, cn')) : wpY_put post (th, va, cn) (nI k) v := by
  have hb := sd_c_le th 0 0
  unfold wpY_put
  dsimp only
  refine sd_kyY hk (br_f (by decide) ⟨vp_in_nI hk (by decide), ?_⟩)
  rw [nI_clamp (by omega)]
  refine br_c (fun z => sd_sizY (pk_lt (sd_c th 0 0) 40 (fun y => sd_pu3Y hk (h fun _ => y)) (hf z) rfl rfl (by omega) (by decide))) (fun z => sd_pu3Y hk (h fun y => absurd y z))
theorem sd_remYn {post : Int32 → SY → Prop} {th va cn : Nat → Int32} {p : Int32} (hk : ¬ ∃ k, k < 256 ∧ p = nI k) (h : post (-1) (th, va, cn)) : wpY_remove post (th, va, cn) p := by
  unfold wpY_remove
  dsimp only
  exact sd_hasYn hk (br_t rfl h)
theorem sd_remY {post : Int32 → SY → Prop} {th va cn : Nat → Int32} {k : Nat} (hk : k < 256) (h0 : th k = 0 → post (-1) (th, va, cn)) (h1 : th k ≠ 0 → ∀ cn', post (nI (sd_bk (upd th k 0))) (upd th k 0, va, cn')) : wpY_remove post (th, va, cn) (nI k) := by
  unfold wpY_remove
  dsimp only
  refine sd_hasY1 hk (fun z => br_t rfl (h0 z)) (fun z => br_f (by decide) ⟨vp_in_nI hk (by decide), ?_⟩)
  rw [nI_clamp (by omega), sd_vb0]
  exact nm_e (sd_bkY (h1 z))
theorem sd_groYn {post : Int32 → SY → Prop} {th va cn : Nat → Int32} {p : Int32} (hk : ¬ ∃ k, k < 256 ∧ p = nI k) (h : post (-1) (th, va, cn)) : wpY_growth post (th, va, cn) p := by
  unfold wpY_growth
  dsimp only
  exact sd_knY hk (br_t rfl h)
theorem sd_vbx {x : Int32} (h : x = 0 ∨ x = 1) : vp_nar .boolean x = x := by
  rcases h with h | h
  · subst h; exact sd_vb0
  · subst h; exact sd_vb1
theorem sd_groY {post : Int32 → SY → Prop} {th va cn : Nat → Int32} (hb : ∀ i, th i = 0 ∨ th i = 1) {k : Nat} (hk : k < 256) (h : ∀ cn', post (nI (sd_bk (upd th k 1)) - nI (sd_bk th)) (th, va, cn')) : wpY_growth post (th, va, cn) (nI k) := by
  have hin : vp_in (nI k) 256 := vp_in_nI hk (by decide)
  unfold wpY_growth
  dsimp only
  refine sd_kyY hk (br_f (by decide) (sd_bkY fun cn1 => ?_))
  dsimp only
  rw [nI_clamp (by omega), sd_vb1]
  refine ⟨hin, nm_e ⟨hin, nm_e (sd_bkY fun cn2 => ?_)⟩⟩
  dsimp only
  refine ⟨hin, ?_⟩
  rw [sd_vbx (hb k), sd_upup]
  exact nm_e (h cn2)
