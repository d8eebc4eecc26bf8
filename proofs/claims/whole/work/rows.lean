section
/-! the pure picture: how many keys have an ending, the depth of a key's bucket, the number of buckets -/
theorem pk_us {f : Nat → Int32} {k : Nat} {x : Int32} : upd f k x k = x := if_pos rfl
theorem pk_un {f : Nat → Int32} {k j : Nat} {x : Int32} (h : j ≠ k) : upd f k x j = f j := if_neg h
theorem pk_sub {a b : Nat} (h : b ≤ a) : nI a - nI b = nI (a - b) := by
  obtain ⟨c, rfl⟩ : ∃ c, a = c + b := ⟨a - b, by omega⟩
  rw [← nI_add, Int32.add_sub_cancel, Nat.add_sub_cancel]
theorem pk_m1 (n : Nat) : nI (n + 1) + (-1) = nI n := by
  rw [← nI_1, Int32.add_assoc, show (1 : Int32) + (-1) = 0 from rfl, Int32.add_zero]
theorem pk_le {x y : Int32} {A B : Prop} (a b : Nat) (f : a ≤ b → A) (g : b < a → B) (hx : x = nI a := by rfl) (hy : y = nI b := by rfl) (ha : a < 2 ^ 31 := by omega) (hb : b < 2 ^ 31 := by omega) : (x ≤ y → A) ∧ (¬ x ≤ y → B) := by
  subst hx hy
  rw [nI_leI ha hb]
  exact ⟨f, fun z => g (by omega)⟩
theorem pk_lt {x y : Int32} {A B : Prop} (a b : Nat) (f : a < b → A) (g : b ≤ a → B) (hx : x = nI a := by rfl) (hy : y = nI b := by rfl) (ha : a < 2 ^ 31 := by omega) (hb : b < 2 ^ 31 := by omega) : (x < y → A) ∧ (¬ x < y → B) := by
  subst hx hy
  rw [nI_ltI ha hb]
  exact ⟨f, fun z => g (by omega)⟩
theorem pk_eq {x y : Int32} {A B : Prop} (a b : Nat) (f : a = b → A) (g : a ≠ b → B) (hx : x = nI a := by rfl) (hy : y = nI b := by rfl) (ha : a < 2 ^ 31 := by omega) (hb : b < 2 ^ 31 := by omega) : (x = y → A) ∧ (¬ x = y → B) := by
  subst hx hy
  rw [nI_eq ha hb]
  exact ⟨f, g⟩
/-- how many i below n satisfy p -/
def sd_cn (p : Nat → Bool) : Nat → Nat
  | 0 => 0
  | n + 1 => sd_cn p n + (if p n = true then 1 else 0)
theorem sd_cn_le (p : Nat → Bool) (n : Nat) : sd_cn p n ≤ n := by
  induction n with
  | zero => exact Nat.le_refl 0
  | succ n ih => rw [sd_cn]; split <;> omega
theorem sd_cs1 {p : Nat → Bool} {n : Nat} (h : p n = true) : sd_cn p (n + 1) = sd_cn p n + 1 := by
  rw [sd_cn, if_pos h]
theorem sd_cs0 {p : Nat → Bool} {n : Nat} (h : p n = false) : sd_cn p (n + 1) = sd_cn p n := by
  rw [sd_cn, h]; rfl
theorem sd_cn_cg {p q : Nat → Bool} {n : Nat} (h : ∀ i, i < n → p i = q i) : sd_cn p n = sd_cn q n := by
  induction n with
  | zero => rfl
  | succ n ih => rw [sd_cn, sd_cn, ih (fun i hi => h i (by omega)), h n (by omega)]
theorem sd_cn_mo {p q : Nat → Bool} {n : Nat} (h : ∀ i, i < n → p i = true → q i = true) : sd_cn p n ≤ sd_cn q n := by
  induction n with
  | zero => exact Nat.le_refl 0
  | succ n ih =>
    have h1 := ih (fun i hi => h i (by omega))
    have h2 := h n (by omega)
    rw [sd_cn, sd_cn]
    by_cases hp : p n = true
    · rw [if_pos hp, if_pos (h2 hp)]; omega
    · rw [if_neg hp]; split <;> omega
theorem sd_cn_ad (p : Nat → Bool) (a b : Nat) : sd_cn p (a + b) = sd_cn p a + sd_cn (fun i => p (a + i)) b := by
  induction b with
  | zero => rfl
  | succ b ih => rw [← Nat.add_assoc, sd_cn, ih, sd_cn]; exact Nat.add_assoc _ _ _
theorem sd_cn_0 {p : Nat → Bool} {n : Nat} (h : ∀ i, i < n → p i = false) : sd_cn p n = 0 := by
  induction n with
  | zero => rfl
  | succ n ih => rw [sd_cs0 (h n (by omega)), ih (fun i hi => h i (by omega))]
theorem sd_cn_1 {p q : Nat → Bool} {k : Nat} (hp : p k = false) (hq : q k = true) {n : Nat} (h : ∀ i, i < n → i ≠ k → q i = p i) (hk : k < n) : sd_cn q n = sd_cn p n + 1 := by
  induction n with
  | zero => omega
  | succ n ih =>
    by_cases e : k = n
    · subst e
      rw [sd_cs1 hq, sd_cs0 hp, sd_cn_cg (p := q) (q := p) (fun i hi => h i (by omega) (by omega))]
    · rw [sd_cn, sd_cn, ih (fun i hi hn => h i (by omega) hn) (by omega), h n (by omega) (by omega)]; omega
theorem sd_cn_or {p q r : Nat → Bool} {n : Nat} (h : ∀ i, i < n → (if r i = true then (1 : Nat) else 0) = (if p i = true then 1 else 0) + (if q i = true then 1 else 0)) : sd_cn r n = sd_cn p n + sd_cn q n := by
  induction n with
  | zero => rfl
  | succ n ih =>
    have h1 := ih (fun i hi => h i (by omega))
    have h2 := h n (by omega)
    rw [sd_cn, sd_cn, sd_cn, h1, h2]; omega
/-- of the keys below n that are there: how many end in the d digits e -/
def sd_C (th : Nat → Int32) (d e n : Nat) : Nat := sd_cn (fun k => decide (th k ≠ 0 ∧ k % 2 ^ d = e)) n
/-- how many keys share the ending of length d with k -/
def sd_c (th : Nat → Int32) (k d : Nat) : Nat := sd_C th d (k % 2 ^ d) 256
theorem sd_C_le (th : Nat → Int32) (d e n : Nat) : sd_C th d e n ≤ n := sd_cn_le _ n
theorem sd_c_le (th : Nat → Int32) (k d : Nat) : sd_c th k d ≤ 256 := sd_cn_le _ 256
theorem sd_c_mo (th : Nat → Int32) (k : Nat) {d d' : Nat} (h : d ≤ d') : sd_c th k d' ≤ sd_c th k d := by
  refine sd_cn_mo fun i _ hi => ?_
  have hi' := of_decide_eq_true hi
  refine decide_eq_true ⟨hi'.1, ?_⟩
  have hd : 2 ^ d ∣ 2 ^ d' := Nat.pow_dvd_pow 2 h
  rw [← Nat.mod_mod_of_dvd i hd, hi'.2, Nat.mod_mod_of_dvd k hd]
theorem sd_four : ∀ e : Fin 64, sd_cn (fun k => decide (k % 2 ^ 6 = e.val)) 256 ≤ 4 := by decide +kernel
theorem sd_c6 (th : Nat → Int32) (k : Nat) : sd_c th k 6 ≤ 4 :=
  Nat.le_trans (sd_cn_mo fun i _ hi => decide_eq_true (of_decide_eq_true hi).2) (sd_four ⟨k % 2 ^ 6, Nat.mod_lt _ (by decide)⟩)
/-- the first depth from d on, of the next n, at which at most four keys share k's ending -/
def sd_dF (th : Nat → Int32) (k : Nat) : Nat → Nat → Nat
  | 0, d => d
  | n + 1, d => if sd_c th k d ≤ 4 then d else sd_dF th k n (d + 1)
def sd_dp (th : Nat → Int32) (k : Nat) : Nat := sd_dF th k 6 0
theorem sd_dF_s (th : Nat → Int32) (k : Nat) : ∀ n d, n + d = 6 → (∀ j, j < d → 4 < sd_c th k j) → sd_dF th k n d ≤ 6 ∧ sd_c th k (sd_dF th k n d) ≤ 4 ∧ ∀ j, j < sd_dF th k n d → 4 < sd_c th k j := by
  intro n
  induction n with
  | zero =>
    intro d hd hj
    obtain rfl : d = 6 := by omega
    exact ⟨Nat.le_refl 6, sd_c6 th k, hj⟩
  | succ n ih =>
    intro d hd hj
    rw [sd_dF]
    by_cases h : sd_c th k d ≤ 4
    · rw [if_pos h]; exact ⟨by omega, h, hj⟩
    · rw [if_neg h]
      refine ih (d + 1) (by omega) fun j hj' => ?_
      by_cases e : j = d
      · subst e; omega
      · exact hj j (by omega)
theorem sd_dp_s (th : Nat → Int32) (k : Nat) : sd_dp th k ≤ 6 ∧ sd_c th k (sd_dp th k) ≤ 4 ∧ ∀ j, j < sd_dp th k → 4 < sd_c th k j :=
  sd_dF_s th k 6 0 rfl fun j hj => absurd hj (Nat.not_lt_zero j)
theorem sd_ltd (th : Nat → Int32) (k d : Nat) : 4 < sd_c th k d ↔ d < sd_dp th k := by
  obtain ⟨h1, h2, h3⟩ := sd_dp_s th k
  constructor
  · intro h
    by_cases e : d < sd_dp th k
    · exact e
    · have := sd_c_mo th k (d := sd_dp th k) (d' := d) (by omega)
      omega
  · exact h3 d
theorem sd_lt (th : Nat → Int32) (e d : Nat) (h : e < 2 ^ d) : 4 < sd_C th d e 256 ↔ d < sd_dp th e := by
  have := sd_ltd th e d
  rw [sd_c, Nat.mod_eq_of_lt h] at this
  exact this
/-- the number of buckets of depth d -/
def sd_od (th : Nat → Int32) (d : Nat) : Nat := sd_cn (fun e => decide (sd_dp th e = d)) (2 ^ d)
/-- the number of endings of length d that more than four keys share -/
def sd_M (th : Nat → Int32) (d : Nat) : Nat := sd_cn (fun e => decide (4 < sd_C th d e 256)) (2 ^ d)
theorem sd_L (th : Nat → Int32) (d : Nat) : sd_cn (fun e => decide (d ≤ sd_dp th e)) (2 ^ d) = sd_od th d + sd_M th d := by
  refine sd_cn_or fun i hi => ?_
  have h := sd_lt th i d hi
  simp only [decide_eq_true_eq, h]
  split <;> split <;> split <;> omega
theorem sd_L1 (th : Nat → Int32) (d : Nat) : sd_cn (fun e => decide (d + 1 ≤ sd_dp th e)) (2 ^ (d + 1)) = 2 * sd_M th d := by
  have e1 : sd_cn (fun e => decide (d + 1 ≤ sd_dp th e)) (2 ^ d) = sd_M th d :=
    sd_cn_cg fun i hi => decide_eq_decide.mpr (sd_lt th i d hi).symm
  have e2 : sd_cn (fun i => decide (d + 1 ≤ sd_dp th (2 ^ d + i))) (2 ^ d) = sd_M th d := by
    refine sd_cn_cg fun i hi => decide_eq_decide.mpr ?_
    have h := sd_ltd th (2 ^ d + i) d
    rw [sd_c, Nat.add_mod_left, Nat.mod_eq_of_lt hi] at h
    exact h.symm
  rw [Nat.pow_succ, Nat.mul_two, sd_cn_ad, e1, e2]
  omega
theorem sd_o1 (th : Nat → Int32) (d : Nat) : sd_od th (d + 1) + sd_M th (d + 1) = 2 * sd_M th d := by
  rw [← sd_L, sd_L1]
theorem sd_o0 (th : Nat → Int32) : sd_od th 0 + sd_M th 0 = 1 := by
  rw [← sd_L]
  exact sd_cs1 (p := fun e => decide (0 ≤ sd_dp th e)) (n := 0) (decide_eq_true (Nat.zero_le _))
theorem sd_M6 (th : Nat → Int32) : sd_M th 6 = 0 :=
  sd_cn_0 fun i hi => decide_eq_false fun h => by
    have h1 := (sd_lt th i 6 hi).mp h
    have h2 := (sd_dp_s th i).1
    omega
theorem sd_o7 (th : Nat → Int32) {d : Nat} (hd : 6 < d) : sd_od th d = 0 :=
  sd_cn_0 fun i hi => decide_eq_false fun h => by
    have h2 := (sd_dp_s th i).1
    omega
/-- the number of buckets -/
def sd_bk (th : Nat → Int32) : Nat := 1 + (sd_M th 0 + sd_M th 1 + sd_M th 2 + sd_M th 3 + sd_M th 4 + sd_M th 5)
/-- the buckets of the depths below n -/
def sd_su (th : Nat → Int32) : Nat → Nat
  | 0 => 0
  | n + 1 => sd_su th n + sd_od th n
theorem sd_sum (th : Nat → Int32) : sd_su th 9 = sd_bk th := by
  have h0 := sd_o0 th
  have h1 := sd_o1 th 0
  have h2 := sd_o1 th 1
  have h3 := sd_o1 th 2
  have h4 := sd_o1 th 3
  have h5 := sd_o1 th 4
  have h6 := sd_o1 th 5
  have h7 := sd_M6 th
  have h8 := sd_o7 th (d := 7) (by decide)
  have h9 := sd_o7 th (d := 8) (by decide)
  simp only [sd_su, sd_bk]
  simp only [Nat.zero_add, Nat.reduceAdd] at h1 h2 h3 h4 h5 h6
  omega
theorem sd_M_le (th : Nat → Int32) {d : Nat} (hd : d ≤ 5) : sd_M th d ≤ 32 :=
  Nat.le_trans (sd_cn_le _ _) (Nat.pow_le_pow_right (n := 2) (by decide) hd)
theorem sd_bk_le (th : Nat → Int32) : sd_bk th ≤ 193 := by
  have h0 := sd_M_le th (d := 0) (by decide)
  have h1 := sd_M_le th (d := 1) (by decide)
  have h2 := sd_M_le th (d := 2) (by decide)
  have h3 := sd_M_le th (d := 3) (by decide)
  have h4 := sd_M_le th (d := 4) (by decide)
  have h5 := sd_M_le th (d := 5) (by decide)
  rw [sd_bk]
  omega
theorem sd_od_le (th : Nat → Int32) {d : Nat} (hd : d ≤ 8) : sd_od th d ≤ 256 :=
  Nat.le_trans (sd_cn_le _ _) (Nat.pow_le_pow_right (n := 2) (by decide) hd)
/-- a key comes in -/
theorem sd_Cup {th : Nat → Int32} {k : Nat} (h0 : th k = 0) (hk : k < 256) (d e : Nat) : sd_C (upd th k 1) d e 256 = sd_C th d e 256 + (if e = k % 2 ^ d then 1 else 0) := by
  unfold sd_C
  by_cases he : e = k % 2 ^ d
  · rw [if_pos he]
    have hq : decide (upd th k 1 k ≠ 0 ∧ k % 2 ^ d = e) = true := by
      refine decide_eq_true ⟨?_, he.symm⟩
      rw [pk_us]; decide
    refine sd_cn_1 (k := k) (decide_eq_false fun z => z.1 h0) hq (fun i _ hn => ?_) hk
    rw [pk_un hn]
  · rw [if_neg he, Nat.add_zero]
    refine sd_cn_cg fun i _ => decide_eq_decide.mpr ?_
    by_cases hn : i = k
    · subst hn
      exact ⟨fun z => absurd z.2.symm he, fun z => absurd z.2.symm he⟩
    · rw [pk_un hn]
theorem sd_Mup {th : Nat → Int32} {k : Nat} (h0 : th k = 0) (hk : k < 256) (d : Nat) : sd_M (upd th k 1) d = sd_M th d + (if sd_c th k d = 4 then 1 else 0) := by
  have hC := fun e => sd_Cup h0 hk d e
  have hl : k % 2 ^ d < 2 ^ d := Nat.mod_lt _ (Nat.two_pow_pos d)
  by_cases h4 : sd_c th k d = 4
  · rw [if_pos h4]
    refine sd_cn_1 (k := k % 2 ^ d) (decide_eq_false fun z => ?_) (decide_eq_true ?_) (fun i _ hn => decide_eq_decide.mpr ?_) hl
    · rw [sd_c] at h4; omega
    · rw [hC, if_pos rfl]; rw [sd_c] at h4; omega
    · rw [hC, if_neg hn, Nat.add_zero]
  · rw [if_neg h4, Nat.add_zero]
    refine sd_cn_cg fun i _ => decide_eq_decide.mpr ?_
    rw [hC]
    by_cases hn : i = k % 2 ^ d
    · subst hn
      rw [if_pos rfl]; rw [sd_c] at h4; omega
    · rw [if_neg hn, Nat.add_zero]
theorem sd_bkup {th : Nat → Int32} {k : Nat} (h0 : th k = 0) (hk : k < 256) : sd_bk (upd th k 1) = sd_bk th + sd_cn (fun d => decide (sd_c th k d = 4)) 6 := by
  simp only [sd_bk, sd_cn, sd_Mup h0 hk, decide_eq_true_eq]
  omega
theorem sd_upup (th : Nat → Int32) (k : Nat) (x : Int32) : upd (upd th k x) k (th k) = th := by
  funext j
  by_cases h : j = k
  · subst h; rw [pk_us]
  · rw [pk_un h, pk_un h]
theorem sd_upid {th : Nat → Int32} {k : Nat} {x : Int32} (h : th k = x) : upd th k x = th := by
  funext j
  by_cases e : j = k
  · subst e; rw [pk_us, h]
  · rw [pk_un e]
/-- a key goes out -/
theorem sd_Cdn {th : Nat → Int32} {k : Nat} (h1 : th k = 1) (hk : k < 256) (d e : Nat) : sd_C th d e 256 = sd_C (upd th k 0) d e 256 + (if e = k % 2 ^ d then 1 else 0) := by
  have h := sd_Cup (th := upd th k 0) (k := k) pk_us hk d e
  rw [← h1, sd_upup th k 0] at h
  exact h
/-- the greatest depth below n of a bucket -/
def sd_dd (th : Nat → Int32) : Nat → Nat
  | 0 => 0
  | n + 1 => if 0 < sd_od th n then n else sd_dd th n
theorem sd_dd9 (th : Nat → Int32) : sd_dd th 9 = sd_dd th 7 := by
  have h8 := sd_o7 th (d := 7) (by decide)
  have h9 := sd_o7 th (d := 8) (by decide)
  rw [sd_dd, h9, if_neg (by decide), sd_dd, h8, if_neg (by decide)]
theorem sd_dd_le (th : Nat → Int32) (n : Nat) : sd_dd th n ≤ n := by
  induction n with
  | zero => exact Nat.le_refl 0
  | succ n ih => rw [sd_dd]; split <;> omega
/-- endings and their numbers -/
theorem sd_inj {d e d' e' : Nat} (h : 2 ^ d + e = 2 ^ d' + e') (he : e < 2 ^ d) (he' : e' < 2 ^ d') : d = d' ∧ e = e' := by
  by_cases h1 : d < d'
  · have := Nat.pow_le_pow_right (n := 2) (by decide) (show d + 1 ≤ d' from h1)
    rw [Nat.pow_succ] at this
    omega
  · by_cases h2 : d' < d
    · have := Nat.pow_le_pow_right (n := 2) (by decide) (show d' + 1 ≤ d from h2)
      rw [Nat.pow_succ] at this
      omega
    · obtain rfl : d = d' := by omega
      exact ⟨rfl, by omega⟩
theorem sd_p6 {d : Nat} (hd : d ≤ 6) : 2 ^ d ≤ 64 := Nat.pow_le_pow_right (n := 2) (by decide) hd
theorem sd_p8 {d : Nat} (hd : d ≤ 8) : 2 ^ d ≤ 256 := Nat.pow_le_pow_right (n := 2) (by decide) hd
theorem sd_ml (k d : Nat) : k % 2 ^ d < 2 ^ d := Nat.mod_lt _ (Nat.two_pow_pos d)
theorem sd_b6 {d : Nat} (k : Nat) (hd : d ≤ 6) : 2 ^ d + k % 2 ^ d < 128 := by
  have h1 := sd_p6 hd
  have h2 := sd_ml k d
  omega
theorem sd_b8 {d : Nat} (k : Nat) (hd : d ≤ 8) : 2 ^ d - 1 + k % 2 ^ d < 511 := by
  have h1 := sd_p8 hd
  have h2 := sd_ml k d
  omega
theorem sd_shF : ∀ d : Fin 9, (1 : Int32) <<< (nI d.val &&& 31) = nI (2 ^ d.val) := by decide +kernel
theorem sd_sh {d : Nat} (hd : d ≤ 8) : (1 : Int32) <<< (nI d &&& 31) = nI (2 ^ d) := sd_shF ⟨d, by omega⟩
theorem sd_enF : ∀ d : Fin 9, ∀ k : Fin 256, nI (2 ^ d.val) ||| (nI k.val &&& (nI (2 ^ d.val) - 1)) = nI (2 ^ d.val + k.val % 2 ^ d.val) := by decide +kernel
theorem sd_en {k d : Nat} (hk : k < 256) (hd : d ≤ 8) : nI (2 ^ d) ||| (nI k &&& (nI (2 ^ d) - 1)) = nI (2 ^ d + k % 2 ^ d) := sd_enF ⟨d, by omega⟩ ⟨k, hk⟩
theorem sd_eyF : ∀ d : Fin 9, ∀ k : Fin 256, (nI (2 ^ d.val) - 1) + (nI k.val &&& (nI (2 ^ d.val) - 1)) = nI (2 ^ d.val - 1 + k.val % 2 ^ d.val) := by decide +kernel
theorem sd_ey {k d : Nat} (hk : k < 256) (hd : d ≤ 8) : (nI (2 ^ d) - 1) + (nI k &&& (nI (2 ^ d) - 1)) = nI (2 ^ d - 1 + k % 2 ^ d) := sd_eyF ⟨d, by omega⟩ ⟨k, hk⟩
end
