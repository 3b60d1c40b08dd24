/-! scopes written cell by cell; packed numbers -/
def cc_os (A : Nat → Int32) (sc o : Nat) : Nat → Nat → Int32
  | 0 => A
  | v + 1 => upd (cc_os A sc o v) (sc * 4 + v) (cc_os A sc o v (o * 4 + v))
theorem cc_os_lo {A : Nat → Int32} {sc o : Nat} : ∀ n j : Nat, j < sc * 4 → cc_os A sc o n j = A j := by
  intro n
  induction n with
  | zero => intro j _; rfl
  | succ n ih =>
    intro j hj
    show upd (cc_os A sc o n) (sc * 4 + n) (cc_os A sc o n (o * 4 + n)) j = A j
    rw [pk_un (by omega), ih j hj]
theorem cc_os_at {A : Nat → Int32} {sc o : Nat} (ho : o < sc) : ∀ n : Nat, n ≤ 4 → ∀ v, v < n → cc_os A sc o n (sc * 4 + v) = A (o * 4 + v) := by
  intro n
  induction n with
  | zero => intro _ v hv; omega
  | succ n ih =>
    intro hn v hv
    show upd (cc_os A sc o n) (sc * 4 + n) (cc_os A sc o n (o * 4 + n)) (sc * 4 + v) = A (o * 4 + v)
    by_cases e : v = n
    · rw [e, pk_us, cc_os_lo n (o * 4 + n) (by omega)]
    · rw [pk_un (by omega), ih (by omega) v (by omega)]
theorem cc_os_b {A : Nat → Int32} {sc o w : Nat} {x : Int32} (ho : o < sc) : (∀ j, j < sc * 4 → upd (cc_os A sc o 4) (sc * 4 + w) x j = A j) ∧ ∀ v, v < 4 → upd (cc_os A sc o 4) (sc * 4 + w) x (sc * 4 + v) = if v = w then x else A (o * 4 + v) := by
  refine ⟨fun j hj => ?_, fun v hv => ?_⟩
  · rw [pk_un (by omega), cc_os_lo 4 j hj]
  · by_cases e : v = w
    · rw [if_pos e, e, pk_us]
    · rw [if_neg e, pk_un (by omega), cc_os_at ho 4 (Nat.le_refl 4) v hv]
theorem cc_os_c {A : Nat → Int32} {sc o w f : Nat} {x y : Int32} (ho : o < sc) : (∀ j, j < sc * 4 → upd (upd (cc_os A sc o 4) (sc * 4 + f) y) (sc * 4 + w) x j = A j) ∧ ∀ v, v < 4 → upd (upd (cc_os A sc o 4) (sc * 4 + f) y) (sc * 4 + w) x (sc * 4 + v) = if v = w then x else if v = f then y else A (o * 4 + v) := by
  refine ⟨fun j hj => ?_, fun v hv => ?_⟩
  · rw [pk_un (by omega), pk_un (by omega), cc_os_lo 4 j hj]
  · by_cases e : v = w
    · rw [if_pos e, e, pk_us]
    · rw [if_neg e, pk_un (by omega)]
      by_cases e2 : v = f
      · rw [if_pos e2, e2, pk_us]
      · rw [if_neg e2, pk_un (by omega), cc_os_at ho 4 (Nat.le_refl 4) v hv]
def cc_fl (A : Nat → Int32) (x : Int32) : Nat → Nat → Int32
  | 0 => A
  | v + 1 => upd (cc_fl A x v) (0 * 4 + v) x
theorem cc_fl_at {A : Nat → Int32} {x : Int32} : ∀ n v : Nat, v < n → cc_fl A x n (0 * 4 + v) = x := by
  intro n
  induction n with
  | zero => intro v hv; omega
  | succ n ih =>
    intro v hv
    show upd (cc_fl A x n) (0 * 4 + n) x (0 * 4 + v) = x
    by_cases e : v = n
    · rw [e]; exact pk_us
    · rw [pk_un (by omega)]; exact ih v (by omega)
theorem cc_q4 {a : Nat} (ha : a < 2 ^ 31) : nI a / 4 = nI (a / 4) := pk_div (d := 4) ha (by decide) (by decide)
theorem cc_q2 {a : Nat} (ha : a < 2 ^ 31) : nI a / 2 = nI (a / 2) := pk_div (d := 2) ha (by decide) (by decide)
theorem cc_q8 {a : Nat} (ha : a < 2 ^ 31) : nI a / 8 = nI (a / 8) := pk_div (d := 8) ha (by decide) (by decide)
theorem cc_q32 {a : Nat} (ha : a < 2 ^ 31) : nI a / 32 = nI (a / 32) := pk_div (d := 32) ha (by decide) (by decide)
theorem cc_q128 {a : Nat} (ha : a < 2 ^ 31) : nI a / 128 = nI (a / 128) := pk_div (d := 128) ha (by decide) (by decide)
theorem cc_r4 {a : Nat} (ha : a < 2 ^ 31) : nI a - nI a / 4 * 4 = nI (a % 4) := pk_rem (d := 4) ha (by decide) (by decide)
theorem cc_r2 {a : Nat} (ha : a < 2 ^ 31) : nI a - nI a / 2 * 2 = nI (a % 2) := pk_rem (d := 2) ha (by decide) (by decide)
theorem cc_r32 {a : Nat} (ha : a < 2 ^ 31) : nI a - nI a / 32 * 32 = nI (a % 32) := pk_rem (d := 32) ha (by decide) (by decide)
theorem cc_wd {l p d : Nat} (hl : l ≤ 800) (hp : p < 24) (hd : d < 3) : nI ((32 * l + p) * 4 + d) - nI ((32 * l + p) * 4 + d) / 4 * 4 = nI d := by
  rw [cc_r4 (by omega), show ((32 * l + p) * 4 + d) % 4 = d by omega]
theorem cc_wp {l p d : Nat} (hl : l ≤ 800) (hp : p < 24) (hd : d < 3) : nI ((32 * l + p) * 4 + d) / 4 - nI ((32 * l + p) * 4 + d) / 4 / 32 * 32 = nI p := by
  rw [cc_q4 (by omega), cc_r32 (by omega), show ((32 * l + p) * 4 + d) / 4 % 32 = p by omega]
theorem cc_wl {l p d : Nat} (hl : l ≤ 800) (hp : p < 24) (hd : d < 3) : nI ((32 * l + p) * 4 + d) / 128 = nI l := by
  rw [cc_q128 (by omega), show ((32 * l + p) * 4 + d) / 128 = l by omega]
theorem cc_ml {l n b : Nat} (hl : l ≤ 800) (hn : n < 4) (hb : b < 2) : nI (8 * l + 2 * n + b) / 8 = nI l := by
  rw [cc_q8 (by omega), show (8 * l + 2 * n + b) / 8 = l by omega]
theorem cc_mn {l n b : Nat} (hl : l ≤ 800) (hn : n < 4) (hb : b < 2) : nI (8 * l + 2 * n + b) / 2 - nI (8 * l + 2 * n + b) / 2 / 4 * 4 = nI n := by
  rw [cc_q2 (by omega), cc_r4 (by omega), show (8 * l + 2 * n + b) / 2 % 4 = n by omega]
theorem cc_mb {l n b : Nat} (hl : l ≤ 800) (hn : n < 4) (hb : b < 2) : nI (8 * l + 2 * n + b) - nI (8 * l + 2 * n + b) / 2 * 2 = nI b := by
  rw [cc_r2 (by omega), show (8 * l + 2 * n + b) % 2 = b by omega]
theorem cc_kp {l p : Nat} (hl : l ≤ 800) (hp : p < 24) : nI (32 * l + p) - nI (32 * l + p) / 32 * 32 = nI p := by
  rw [cc_r32 (by omega), show (32 * l + p) % 32 = p by omega]
theorem cc_kl {l p : Nat} (hl : l ≤ 800) (hp : p < 24) : nI (32 * l + p) / 32 = nI l := by
  rw [cc_q32 (by omega), show (32 * l + p) / 32 = l by omega]
theorem cc_nf {f w : Nat} (hf : f < 4) (hw : w < 4) : nI (4 * f + w) / 4 = nI f := by
  rw [cc_q4 (by omega), show (4 * f + w) / 4 = f by omega]
theorem cc_nw {f w : Nat} (hf : f < 4) (hw : w < 4) : nI (4 * f + w) - nI (4 * f + w) / 4 * 4 = nI w := by
  rw [cc_r4 (by omega), show (4 * f + w) % 4 = w by omega]
theorem cc_ko : ∀ o, o < 5 → ¬ nI o = 5 ∧ ¬ nI o = 6 ∧ ¬ nI o = 7 ∧ ¬ nI o = 8 ∧ ¬ nI o = 9 := by decide +kernel
