section
/-! rows pasted from the kit's rows to paste -/
theorem pk_us {f : Nat → Int32} {k : Nat} {x : Int32} : upd f k x k = x := if_pos rfl
theorem pk_un {f : Nat → Int32} {k j : Nat} {x : Int32} (h : j ≠ k) : upd f k x j = f j := if_neg h
theorem pk_sub {a b : Nat} (h : b ≤ a) : nI a - nI b = nI (a - b) := by
  obtain ⟨c, rfl⟩ : ∃ c, a = c + b := ⟨a - b, by omega⟩
  rw [← nI_add, Int32.add_sub_cancel, Nat.add_sub_cancel]
theorem pk_m1 (n : Nat) : nI (n + 1) + (-1) = nI n := by
  rw [← nI_1, Int32.add_assoc, show (1 : Int32) + (-1) = 0 from rfl, Int32.add_zero]
theorem pk_mul (a b : Nat) : nI a * nI b = nI (a * b) := (Int32.ofNat_mul a b).symm
theorem pk_div {a d : Nat} (ha : a < 2 ^ 31) (h0 : 0 < d) (hd : d < 2 ^ 31) : nI a / nI d = nI (a / d) := by
  apply Int32.toInt_inj.mp
  rw [lg_idiv_nonneg (by rw [nI_toInt ha]; omega) (by rw [nI_toInt hd]; omega), nI_toInt ha, nI_toInt hd, nI_toInt (Nat.lt_of_le_of_lt (Nat.div_le_self a d) ha)]
  first | rfl | exact (Int.natCast_ediv _ _).symm
theorem pk_rem {a d : Nat} (ha : a < 2 ^ 31) (h0 : 0 < d) (hd : d < 2 ^ 31) : nI a - nI a / nI d * nI d = nI (a % d) := by
  rw [pk_div ha h0 hd, pk_mul, pk_sub (Nat.div_mul_le_self a d)]
  exact congrArg nI (by have := Nat.div_add_mod' a d; omega)
theorem pk_ix (x : Int32) {n : Nat} (hn : n < 2 ^ 31) : x < 0 ∨ nI n ≤ x ∨ ∃ j : Nat, j < n ∧ x = nI j := by
  by_cases h : x < 0
  · exact Or.inl h
  · obtain ⟨j, hj, rfl⟩ := nI_of h
    by_cases h2 : j < n
    · exact Or.inr (Or.inr ⟨j, h2, rfl⟩)
    · exact Or.inr (Or.inl (nI_le (by omega) hj))
theorem pk_le {x y : Int32} {A B : Prop} (a b : Nat) (f : a ≤ b → A) (g : b < a → B) (hx : x = nI a := by rfl) (hy : y = nI b := by rfl) (ha : a < 2 ^ 31 := by omega) (hb : b < 2 ^ 31 := by omega) : (x ≤ y → A) ∧ (¬ x ≤ y → B) := by
  subst hx hy
  rw [nI_leI ha hb]
  exact ⟨f, fun z => g (by omega)⟩
theorem pk_lt {x y : Int32} {A B : Prop} (a b : Nat) (f : a < b → A) (g : b ≤ a → B) (hx : x = nI a := by rfl) (hy : y = nI b := by rfl) (ha : a < 2 ^ 31 := by omega) (hb : b < 2 ^ 31 := by omega) : (x < y → A) ∧ (¬ x < y → B) := by
  subst hx hy
  rw [nI_ltI ha hb]
  exact ⟨f, fun z => g (by omega)⟩
theorem pk_eq {x y : Int32} {A B : Prop} (a b : Nat) (f : a = b → A) (g : a ≠ b → B) (hx : x = nI a := by rfl) (hy : y = nI b := by rfl) (ha : a < 2 ^ 31 := by omega) (hb : b < 2 ^ 31 := by omega) : (x = y → A) ∧ (¬ x = y → B) := by
  subst hx hy
  rw [nI_eq ha hb]
  exact ⟨f, g⟩
theorem pk_in {x : Int32} (n N : Nat) (h : n < N) (hx : x = nI n := by rfl) (hN : N < 2 ^ 31 := by omega) : vp_in x N := by
  subst hx
  exact vp_in_nI h hN
theorem pk_cl {x : Int32} (n : Nat) (hx : x = nI n := by rfl) (h : n < 2 ^ 31 := by omega) : x.toNatClampNeg = n := by
  subst hx
  exact nI_clamp h
theorem co_4 {P : Nat → Prop} (h0 : P 0) (h1 : P 1) (h2 : P 2) (h3 : P 3) {i : Nat} (hi : i < 4) : P i :=
  match i, hi with
  | 0, _ => h0
  | 1, _ => h1
  | 2, _ => h2
  | 3, _ => h3
end
section
/-! the static part: programs, sizes, the stack -/
def cc_ss (stk : Nat → Int32) (sz : Nat → Nat) : Nat → Nat
  | 0 => 0
  | n + 1 => cc_ss stk sz n + sz (stk n).toNatClampNeg
theorem cc_ss_c {stk stk' : Nat → Int32} {sz sz' : Nat → Nat} : ∀ n : Nat, (∀ i, i < n → sz' (stk' i).toNatClampNeg = sz (stk i).toNatClampNeg) → cc_ss stk' sz' n = cc_ss stk sz n := by
  intro n
  induction n with
  | zero => intro _; rfl
  | succ n ih =>
    intro h
    show cc_ss stk' sz' n + sz' (stk' n).toNatClampNeg = cc_ss stk sz n + sz (stk n).toNatClampNeg
    rw [ih (fun i hi => h i (Nat.lt_succ_of_lt hi)), h n (Nat.lt_succ_self n)]
theorem cc_ss_le {stk : Nat → Int32} {sz : Nat → Nat} {n : Nat} : ∀ d : Nat, n < d → sz (stk n).toNatClampNeg ≤ cc_ss stk sz d := by
  intro d
  induction d with
  | zero => intro h; omega
  | succ d ih =>
    intro h
    show _ ≤ cc_ss stk sz d + sz (stk d).toNatClampNeg
    by_cases e : n = d
    · rw [e]; omega
    · have := ih (by omega); omega
def cc_cp (P stk : Nat → Int32) (j b : Nat) : Nat → Nat → Int32
  | 0 => P
  | i + 1 => upd (cc_cp P stk j b i) (j + i) (stk (b + i))
theorem cc_cp_lo {P stk : Nat → Int32} {j b : Nat} : ∀ (n i : Nat), i < j → cc_cp P stk j b n i = P i := by
  intro n
  induction n with
  | zero => intro i _; rfl
  | succ n ih =>
    intro i h
    show upd (cc_cp P stk j b n) (j + n) (stk (b + n)) i = P i
    rw [pk_un (by omega), ih i h]
theorem cc_cp_at {P stk : Nat → Int32} {j b : Nat} : ∀ (n i : Nat), i < n → cc_cp P stk j b n (j + i) = stk (b + i) := by
  intro n
  induction n with
  | zero => intro i h; omega
  | succ n ih =>
    intro i h
    show upd (cc_cp P stk j b n) (j + n) (stk (b + n)) (j + i) = stk (b + i)
    by_cases e : i = n
    · rw [e]; exact pk_us
    · rw [pk_un (by omega)]; exact ih i (by omega)
def cc_ex (f : Nat → Nat) (m z : Nat) : Nat → Nat := fun p => if p = m then z else f p
theorem cc_ex_s {f : Nat → Nat} {m z : Nat} : cc_ex f m z m = z := if_pos rfl
theorem cc_ex_n {f : Nat → Nat} {m z p : Nat} (h : p ≠ m) : cc_ex f m z p = f p := if_neg h
/-- what a program is, on both sides -/
def cc_St (m : Nat) (pK pD pS pP yk yn : Nat → Int32) (sz rm : Nat → Nat) (p : Nat) : Prop :=
  (pK p = 5 ∧ yk p = 8 ∧ yn p = pD p ∧ sz p = 1) ∨
  (pK p = 6 ∧ yk p = 9 ∧ sz p = 1 ∧ ∃ w, w < 4 ∧ pD p = nI w ∧ yn p = nI w) ∨
  (pK p = 9 ∧ yk p = 7 ∧ ∃ w f b, w < 4 ∧ f < 4 ∧ b < m ∧ pD p = nI w ∧ pS p = nI f ∧ yn p = nI (4 * f + w) ∧ pP (3 * p) = nI b ∧ sz p = 1 + sz b) ∨
  (pK p = 7 ∧ yk p = 5 ∧ ∃ a b c, a < m ∧ b < m ∧ c < m ∧ pP (3 * p) = nI a ∧ pP (3 * p + 1) = nI b ∧ pP (3 * p + 2) = nI c ∧ sz p = 1 + sz a + sz b + sz c ∧ rm p = sz b + sz c) ∨
  (pK p = 8 ∧ yk p = 6 ∧ ∃ w a b, w < 4 ∧ a < m ∧ b < m ∧ pD p = nI w ∧ yn p = nI w ∧ pP (3 * p) = nI a ∧ pP (3 * p + 1) = nI b ∧ sz p = 1 + sz a + sz b ∧ rm p = sz b) ∨
  (∃ o a b, o < 5 ∧ a < m ∧ b < m ∧ pK p = nI o ∧ yk p = nI o ∧ pP (3 * p) = nI a ∧ pP (3 * p + 1) = nI b ∧ sz p = 1 + sz a + sz b ∧ rm p = sz b)
/-- all programs -/
def cc_Al (m : Nat) (pK pD pS pP yk yn : Nat → Int32) (sz rm : Nat → Nat) : Prop :=
  ∀ p, p < m → 1 ≤ sz p ∧ sz p ≤ 24 ∧ cc_St m pK pD pS pP yk yn sz rm p
def cc_Sr (m d : Nat) (pK pD pS pP yk yn stk : Nat → Int32) : Prop :=
  m ≤ 24 ∧ d ≤ 6 ∧ (∀ i, i < d → ∃ q, q < m ∧ stk i = nI q) ∧ ∃ sz rm : Nat → Nat, cc_Al m pK pD pS pP yk yn sz rm ∧ cc_ss stk sz d ≤ m
theorem cc_St_up {m p z r : Nat} {pK pD pS pP pP' yk yn : Nat → Int32} {k dt sf k2 nt : Int32} {sz rm : Nat → Nat} (hp : p < m) (hP : ∀ j, j < 3 * m → pP' j = pP j)
    (h : cc_St m pK pD pS pP yk yn sz rm p) : cc_St (m + 1) (upd pK m k) (upd pD m dt) (upd pS m sf) pP' (upd yk m k2) (upd yn m nt) (cc_ex sz m z) (cc_ex rm m r) p := by
  have hn : p ≠ m := by omega
  have e1 : upd pK m k p = pK p := pk_un hn
  have e2 : upd pD m dt p = pD p := pk_un hn
  have e3 : upd pS m sf p = pS p := pk_un hn
  have e4 : upd yk m k2 p = yk p := pk_un hn
  have e5 : upd yn m nt p = yn p := pk_un hn
  have e6 : cc_ex sz m z p = sz p := cc_ex_n hn
  have e7 : cc_ex rm m r p = rm p := cc_ex_n hn
  have ez : ∀ a, a < m → cc_ex sz m z a = sz a := fun a ha => cc_ex_n (by omega)
  have p0 : pP' (3 * p) = pP (3 * p) := hP _ (by omega)
  have p1 : pP' (3 * p + 1) = pP (3 * p + 1) := hP _ (by omega)
  have p2 : pP' (3 * p + 2) = pP (3 * p + 2) := hP _ (by omega)
  rcases h with ⟨h1, h2, h3, h4⟩ | ⟨h1, h2, h3, w, h4, h5, h6⟩ | ⟨h1, h2, w, f, b, h3, h4, h5, h6, h7, h8, h9, h10⟩ | ⟨h1, h2, a, b, c, h3, h4, h5, h6, h7, h8, h9, h10⟩ | ⟨h1, h2, w, a, b, h3, h4, h5, h6, h7, h8, h9, h10, h11⟩ | ⟨o, a, b, h3, h4, h5, h6, h7, h8, h9, h10, h11⟩
  · exact Or.inl ⟨e1.trans h1, e4.trans h2, (e5.trans h3).trans e2.symm, e6.trans h4⟩
  · exact Or.inr (Or.inl ⟨e1.trans h1, e4.trans h2, e6.trans h3, w, h4, e2.trans h5, e5.trans h6⟩)
  · exact Or.inr (Or.inr (Or.inl ⟨e1.trans h1, e4.trans h2, w, f, b, h3, h4, by omega, e2.trans h6, e3.trans h7, e5.trans h8, p0.trans h9, by rw [e6, ez b h5]; exact h10⟩))
  · exact Or.inr (Or.inr (Or.inr (Or.inl ⟨e1.trans h1, e4.trans h2, a, b, c, by omega, by omega, by omega, p0.trans h6, p1.trans h7, p2.trans h8, by rw [e6, ez a h3, ez b h4, ez c h5]; exact h9, by rw [e7, ez b h4, ez c h5]; exact h10⟩)))
  · exact Or.inr (Or.inr (Or.inr (Or.inr (Or.inl ⟨e1.trans h1, e4.trans h2, w, a, b, h3, by omega, by omega, e2.trans h6, e5.trans h7, p0.trans h8, p1.trans h9, by rw [e6, ez a h4, ez b h5]; exact h10, by rw [e7, ez b h5]; exact h11⟩))))
  · exact Or.inr (Or.inr (Or.inr (Or.inr (Or.inr ⟨o, a, b, h3, by omega, by omega, e1.trans h6, e4.trans h7, p0.trans h8, p1.trans h9, by rw [e6, ez a h4, ez b h5]; exact h10, by rw [e7, ez b h5]; exact h11⟩))))
theorem cc_mk {m d b : Nat} {pK pD pS pP pP' yk yn stk : Nat → Int32} {k dt sf k2 nt : Int32} (h : cc_Sr m d pK pD pS pP yk yn stk) (hm : m < 24) (hb : b ≤ d) (h6 : b < 6) (hP : ∀ j, j < 3 * m → pP' j = pP j)
    (H : ∀ sz rm : Nat → Nat, ∃ z r, 1 ≤ z ∧ cc_ss stk sz b + z ≤ cc_ss stk sz d + 1 ∧ cc_St (m + 1) (upd pK m k) (upd pD m dt) (upd pS m sf) pP' (upd yk m k2) (upd yn m nt) (cc_ex sz m z) (cc_ex rm m r) m) :
    cc_Sr (m + 1) (b + 1) (upd pK m k) (upd pD m dt) (upd pS m sf) pP' (upd yk m k2) (upd yn m nt) (upd stk b (nI m)) := by
  obtain ⟨h24, hd, hq, sz, rm, hs, hss⟩ := h
  obtain ⟨z, r, hz, hzs, hst⟩ := H sz rm
  refine ⟨by omega, by omega, ?_, cc_ex sz m z, cc_ex rm m r, ?_, ?_⟩
  · intro i hi
    by_cases e : i = b
    · exact ⟨m, by omega, by rw [e]; exact pk_us⟩
    · obtain ⟨q, hq1, hq2⟩ := hq i (by omega)
      exact ⟨q, by omega, (pk_un e).trans hq2⟩
  · intro p hp
    by_cases e : p = m
    · rw [e]
      refine ⟨?_, ?_, hst⟩
      · rw [cc_ex_s]; exact hz
      · rw [cc_ex_s]; omega
    · obtain ⟨a1, a2, a3⟩ := hs p (by omega)
      refine ⟨?_, ?_, cc_St_up (by omega) hP a3⟩
      · rw [cc_ex_n e]; exact a1
      · rw [cc_ex_n e]; exact a2
  · have e1 : cc_ss (upd stk b (nI m)) (cc_ex sz m z) b = cc_ss stk sz b := cc_ss_c b (fun i hi => by
      obtain ⟨q, hq1, hq2⟩ := hq i (by omega)
      rw [pk_un (by omega), hq2, nI_clamp (by omega), cc_ex_n (by omega)])
    show cc_ss (upd stk b (nI m)) (cc_ex sz m z) b + cc_ex sz m z (upd stk b (nI m) b).toNatClampNeg ≤ m + 1
    rw [e1, pk_us, nI_clamp (by omega), cc_ex_s]
    omega
theorem cc_mk_number {m d : Nat} {pK pD pS pP yk yn stk : Nat → Int32} {x s : Int32} (h : cc_Sr m d pK pD pS pP yk yn stk) (hm : m < 24) (h6 : d < 6) :
    cc_Sr (m + 1) (d + 1) (upd pK m 5) (upd pD m x) (upd pS m s) pP (upd yk m 8) (upd yn m x) (upd stk d (nI m)) :=
  cc_mk h hm (Nat.le_refl d) h6 (fun _ _ => rfl) (fun sz rm => ⟨1, 0, Nat.le_refl 1, Nat.le_refl _, Or.inl ⟨pk_us, pk_us, (pk_us (f := yn)).trans (pk_us (f := pD)).symm, cc_ex_s⟩⟩)
theorem cc_mk_name {m d w : Nat} {pK pD pS pP yk yn stk : Nat → Int32} {s : Int32} (h : cc_Sr m d pK pD pS pP yk yn stk) (hm : m < 24) (h6 : d < 6) (hw : w < 4) :
    cc_Sr (m + 1) (d + 1) (upd pK m 6) (upd pD m (nI w)) (upd pS m s) pP (upd yk m 9) (upd yn m (nI w)) (upd stk d (nI m)) :=
  cc_mk h hm (Nat.le_refl d) h6 (fun _ _ => rfl) (fun sz rm => ⟨1, 0, Nat.le_refl 1, Nat.le_refl _, Or.inr (Or.inl ⟨pk_us, pk_us, cc_ex_s, w, hw, pk_us, pk_us⟩)⟩)
theorem cc_mk_two {m b o : Nat} {pK pD pS pP yk yn stk : Nat → Int32} {x s y : Int32} (h : cc_Sr m (b + 2) pK pD pS pP yk yn stk) (hm : m < 24) (ho : o < 5) :
    cc_Sr (m + 1) (b + 1) (upd pK m (nI o)) (upd pD m x) (upd pS m s) (cc_cp pP stk (3 * m) b 2) (upd yk m (nI o)) (upd yn m y) (upd stk b (nI m)) := by
  have h6 : b + 2 ≤ 6 := h.2.1
  obtain ⟨a, ha, ea⟩ := h.2.2.1 b (by omega)
  obtain ⟨c, hc, ec⟩ := h.2.2.1 (b + 1) (by omega)
  refine cc_mk h hm (by omega) (by omega) (fun j hj => cc_cp_lo 2 j hj) (fun sz rm => ⟨1 + sz a + sz c, sz c, by omega, ?_, ?_⟩)
  · show cc_ss stk sz b + (1 + sz a + sz c) ≤ cc_ss stk sz b + sz (stk b).toNatClampNeg + sz (stk (b + 1)).toNatClampNeg + 1
    rw [ea, ec, nI_clamp (by omega), nI_clamp (by omega)]
    omega
  · exact Or.inr (Or.inr (Or.inr (Or.inr (Or.inr ⟨o, a, c, ho, by omega, by omega, pk_us, pk_us, (cc_cp_at 2 0 (by omega)).trans ea, (cc_cp_at 2 1 (by omega)).trans ec, by rw [cc_ex_s, cc_ex_n (by omega), cc_ex_n (by omega)], by rw [cc_ex_s, cc_ex_n (by omega)]⟩))))
theorem cc_mk_bind {m b w : Nat} {pK pD pS pP yk yn stk : Nat → Int32} {s : Int32} (h : cc_Sr m (b + 2) pK pD pS pP yk yn stk) (hm : m < 24) (hw : w < 4) :
    cc_Sr (m + 1) (b + 1) (upd pK m 8) (upd pD m (nI w)) (upd pS m s) (cc_cp pP stk (3 * m) b 2) (upd yk m 6) (upd yn m (nI w)) (upd stk b (nI m)) := by
  have h6 : b + 2 ≤ 6 := h.2.1
  obtain ⟨a, ha, ea⟩ := h.2.2.1 b (by omega)
  obtain ⟨c, hc, ec⟩ := h.2.2.1 (b + 1) (by omega)
  refine cc_mk h hm (by omega) (by omega) (fun j hj => cc_cp_lo 2 j hj) (fun sz rm => ⟨1 + sz a + sz c, sz c, by omega, ?_, ?_⟩)
  · show cc_ss stk sz b + (1 + sz a + sz c) ≤ cc_ss stk sz b + sz (stk b).toNatClampNeg + sz (stk (b + 1)).toNatClampNeg + 1
    rw [ea, ec, nI_clamp (by omega), nI_clamp (by omega)]
    omega
  · exact Or.inr (Or.inr (Or.inr (Or.inr (Or.inl ⟨pk_us, pk_us, w, a, c, hw, by omega, by omega, pk_us, pk_us, (cc_cp_at 2 0 (by omega)).trans ea, (cc_cp_at 2 1 (by omega)).trans ec, by rw [cc_ex_s, cc_ex_n (by omega), cc_ex_n (by omega)], by rw [cc_ex_s, cc_ex_n (by omega)]⟩))))
theorem cc_mk_choose {m b : Nat} {pK pD pS pP yk yn stk : Nat → Int32} {x s y : Int32} (h : cc_Sr m (b + 3) pK pD pS pP yk yn stk) (hm : m < 24) :
    cc_Sr (m + 1) (b + 1) (upd pK m 7) (upd pD m x) (upd pS m s) (cc_cp pP stk (3 * m) b 3) (upd yk m 5) (upd yn m y) (upd stk b (nI m)) := by
  have h6 : b + 3 ≤ 6 := h.2.1
  obtain ⟨a, ha, ea⟩ := h.2.2.1 b (by omega)
  obtain ⟨c, hc, ec⟩ := h.2.2.1 (b + 1) (by omega)
  obtain ⟨d, hd, ed⟩ := h.2.2.1 (b + 2) (by omega)
  refine cc_mk h hm (by omega) (by omega) (fun j hj => cc_cp_lo 3 j hj) (fun sz rm => ⟨1 + sz a + sz c + sz d, sz c + sz d, by omega, ?_, ?_⟩)
  · show cc_ss stk sz b + (1 + sz a + sz c + sz d) ≤ cc_ss stk sz b + sz (stk b).toNatClampNeg + sz (stk (b + 1)).toNatClampNeg + sz (stk (b + 2)).toNatClampNeg + 1
    rw [ea, ec, ed, nI_clamp (by omega), nI_clamp (by omega), nI_clamp (by omega)]
    omega
  · exact Or.inr (Or.inr (Or.inr (Or.inl ⟨pk_us, pk_us, a, c, d, by omega, by omega, by omega, (cc_cp_at 3 0 (by omega)).trans ea, (cc_cp_at 3 1 (by omega)).trans ec, (cc_cp_at 3 2 (by omega)).trans ed, by rw [cc_ex_s, cc_ex_n (by omega), cc_ex_n (by omega), cc_ex_n (by omega)], by rw [cc_ex_s, cc_ex_n (by omega), cc_ex_n (by omega)]⟩)))
theorem cc_mk_function {m b w f : Nat} {pK pD pS pP yk yn stk : Nat → Int32} (h : cc_Sr m (b + 1) pK pD pS pP yk yn stk) (hm : m < 24) (hw : w < 4) (hf : f < 4) :
    cc_Sr (m + 1) (b + 1) (upd pK m 9) (upd pD m (nI w)) (upd pS m (nI f)) (cc_cp pP stk (3 * m) b 1) (upd yk m 7) (upd yn m (nI (4 * f + w))) (upd stk b (nI m)) := by
  have h6 : b + 1 ≤ 6 := h.2.1
  obtain ⟨a, ha, ea⟩ := h.2.2.1 b (by omega)
  refine cc_mk h hm (by omega) (by omega) (fun j hj => cc_cp_lo 1 j hj) (fun sz rm => ⟨1 + sz a, 0, by omega, ?_, ?_⟩)
  · show cc_ss stk sz b + (1 + sz a) ≤ cc_ss stk sz b + sz (stk b).toNatClampNeg + 1
    rw [ea, nI_clamp (by omega)]
    omega
  · exact Or.inr (Or.inr (Or.inl ⟨pk_us, pk_us, w, f, a, hw, hf, by omega, pk_us, pk_us, pk_us, (cc_cp_at 1 0 (by omega)).trans ea, by rw [cc_ex_s, cc_ex_n (by omega)]⟩))
end
section
/-! the running part: tasks, results, scopes against lists, closures; ghosts ek ew (what a list says of a name) -/
def cc_VK (c : Nat) (k w : Int32) : Prop := k = 0 ∨ (k = 1 ∧ ∃ j, j < c ∧ w = nI j)
theorem cc_VK_up {c c' : Nat} {k w : Int32} (hc : c ≤ c') (h : cc_VK c k w) : cc_VK c' k w := by
  rcases h with h | ⟨h, j, hj, e⟩
  · exact Or.inl h
  · exact Or.inr ⟨h, j, by omega, e⟩
def cc_Q (sc e : Nat) (mK mV : Nat → Int32) (ek ew : Nat → Nat → Int32) (s l : Nat) : Prop :=
  s < sc ∧ l ≤ e ∧ ∀ v, v < 4 → mK (s * 4 + v) = ek l v ∧ mV (s * 4 + v) = ew l v
theorem cc_Q_up {sc sc' e e' : Nat} {mK mV mK' mV' : Nat → Int32} {ek ew ek' ew' : Nat → Nat → Int32} (h1 : sc ≤ sc') (h2 : e ≤ e') (h3 : ∀ j, j < sc * 4 → mK' j = mK j ∧ mV' j = mV j)
    (h4 : ∀ l v, l ≤ e → ek' l v = ek l v ∧ ew' l v = ew l v) : ∀ s l, cc_Q sc e mK mV ek ew s l → cc_Q sc' e' mK' mV' ek' ew' s l := by
  intro s l ⟨a, b, c⟩
  refine ⟨by omega, by omega, fun v hv => ?_⟩
  obtain ⟨c1, c2⟩ := c v hv
  obtain ⟨d1, d2⟩ := h3 (s * 4 + v) (by omega)
  obtain ⟨f1, f2⟩ := h4 l v b
  exact ⟨(d1.trans c1).trans f1.symm, (d2.trans c2).trans f2.symm⟩
def cc_E (e c : Nat) (me mt : Nat → Int32) (ek ew : Nat → Nat → Int32) : Prop :=
  (∀ v, v < 4 → ek 0 v = -1) ∧
  (∀ k, k < e → ∃ l n b, l ≤ k ∧ n < 4 ∧ b < 2 ∧ me k = nI (8 * l + 2 * n + b) ∧ ∀ v, v < 4 → ek (k + 1) v = (if v = n then nI b else ek l v) ∧ ew (k + 1) v = (if v = n then mt k else ew l v)) ∧
  (∀ l v, l ≤ e → v < 4 → ek l v = -1 ∨ cc_VK c (ek l v) (ew l v))
theorem cc_E_c {e c c' : Nat} {me mt : Nat → Int32} {ek ew : Nat → Nat → Int32} (hc : c ≤ c') (h : cc_E e c me mt ek ew) : cc_E e c' me mt ek ew :=
  ⟨h.1, h.2.1, fun l v hl hv => (h.2.2 l v hl hv).imp id (cc_VK_up hc)⟩
def cc_xe (f : Nat → Nat → Int32) (e l n : Nat) (x : Int32) : Nat → Nat → Int32 := fun l' v => if l' = e + 1 then (if v = n then x else f l v) else f l' v
theorem cc_xe_n {f : Nat → Nat → Int32} {e l n l' v : Nat} {x : Int32} (h : l' ≠ e + 1) : cc_xe f e l n x l' v = f l' v := if_neg h
theorem cc_xe_s {f : Nat → Nat → Int32} {e l n v : Nat} {x : Int32} : cc_xe f e l n x (e + 1) v = if v = n then x else f l v := if_pos rfl
theorem cc_E_add {e c l n b : Nat} {me mt : Nat → Int32} {ek ew : Nat → Nat → Int32} {w : Int32} (h : cc_E e c me mt ek ew) (hl : l ≤ e) (hn : n < 4) (hb : b < 2) (hv : cc_VK c (nI b) w) :
    cc_E (e + 1) c (upd me e (nI (8 * l + 2 * n + b))) (upd mt e w) (cc_xe ek e l n (nI b)) (cc_xe ew e l n w) := by
  obtain ⟨h0, h1, h2⟩ := h
  refine ⟨fun v hv => ?_, fun k hk => ?_, fun l' v hl' hv' => ?_⟩
  · rw [cc_xe_n (by omega)]; exact h0 v hv
  · by_cases hke : k = e
    · rw [hke]
      refine ⟨l, n, b, hl, hn, hb, pk_us, fun v hv => ⟨?_, ?_⟩⟩
      · rw [cc_xe_s, cc_xe_n (show l ≠ e + 1 by omega)]
      · rw [cc_xe_s, cc_xe_n (show l ≠ e + 1 by omega), pk_us]
    · obtain ⟨l1, n1, b1, q1, q2, q3, q4, q5⟩ := h1 k (by omega)
      refine ⟨l1, n1, b1, q1, q2, q3, (pk_un hke).trans q4, fun v hv => ⟨?_, ?_⟩⟩
      · rw [cc_xe_n (show k + 1 ≠ e + 1 by omega), cc_xe_n (show l1 ≠ e + 1 by omega)]; exact (q5 v hv).1
      · rw [cc_xe_n (show k + 1 ≠ e + 1 by omega), cc_xe_n (show l1 ≠ e + 1 by omega), pk_un hke]; exact (q5 v hv).2
  · by_cases he : l' = e + 1
    · subst he
      rw [cc_xe_s, cc_xe_s]
      by_cases hvn : v = n
      · rw [if_pos hvn, if_pos hvn]; exact Or.inr hv
      · rw [if_neg hvn, if_neg hvn]; exact h2 l v hl hv'
    · rw [cc_xe_n he, cc_xe_n he]; exact h2 l' v (by omega) hv'
def cc_C (m c : Nat) (Q : Nat → Nat → Prop) (pK cP cS cl : Nat → Int32) : Prop :=
  ∀ i, i < c → ∃ p s l, p < m ∧ Q s l ∧ pK p = 9 ∧ cP i = nI p ∧ cS i = nI s ∧ cl i = nI (32 * l + p)
theorem cc_C_up {m c : Nat} {Q Q' : Nat → Nat → Prop} {pK cP cS cl : Nat → Int32} (hQ : ∀ s l, Q s l → Q' s l) (h : cc_C m c Q pK cP cS cl) : cc_C m c Q' pK cP cS cl := by
  intro i hi
  obtain ⟨p, s, l, a, b, r⟩ := h i hi
  exact ⟨p, s, l, a, hQ s l b, r⟩
theorem cc_C_add {m c p s l : Nat} {Q : Nat → Nat → Prop} {pK cP cS cl : Nat → Int32} (h : cc_C m c Q pK cP cS cl) (hp : p < m) (hQ : Q s l) (hk : pK p = 9) :
    cc_C m (c + 1) Q pK (upd cP c (nI p)) (upd cS c (nI s)) (upd cl c (nI (32 * l + p))) := by
  intro i hi
  by_cases e : i = c
  · rw [e]; exact ⟨p, s, l, hp, hQ, hk, pk_us, pk_us, pk_us⟩
  · obtain ⟨p1, s1, l1, a, b, d, f, g, r⟩ := h i (by omega)
    exact ⟨p1, s1, l1, a, b, d, (pk_un e).trans f, (pk_un e).trans g, (pk_un e).trans r⟩
def cc_V (h c : Nat) (rK rV va ic : Nat → Int32) : Prop := ∀ i, i < h → va i = rV i ∧ ic i = rK i ∧ cc_VK c (rK i) (rV i)
theorem cc_V_lo {h h' c c' : Nat} {rK rV va ic : Nat → Int32} (hh : h' ≤ h) (hc : c ≤ c') (H : cc_V h c rK rV va ic) : cc_V h' c' rK rV va ic := by
  intro i hi
  obtain ⟨a, b, d⟩ := H i (by omega)
  exact ⟨a, b, cc_VK_up hc d⟩
theorem cc_V_add {h c : Nat} {rK rV va ic : Nat → Int32} {k w : Int32} (H : cc_V h c rK rV va ic) (hv : cc_VK c k w) : cc_V (h + 1) c (upd rK h k) (upd rV h w) (upd va h w) (upd ic h k) := by
  intro i hi
  by_cases e : i = h
  · rw [e, pk_us, pk_us, pk_us, pk_us]; exact ⟨rfl, rfl, hv⟩
  · rw [pk_un e, pk_un e, pk_un e, pk_un e]; exact H i (by omega)
def cc_hd : List (Nat × Nat × Nat × Nat) → Nat
  | [] => 1
  | x :: _ => x.2.2.1
def cc_sm (f : Nat → Nat → Nat) : List (Nat × Nat × Nat × Nat) → Nat
  | [] => 0
  | x :: t => f x.1 x.2.2.1 + cc_sm f t
def cc_c1 (sz rm : Nat → Nat) (p : Nat) : Nat → Nat
  | 0 => 30 * sz p
  | 1 => 30 * rm p + 29
  | _ => 1
def cc_c2 (sz rm : Nat → Nat) (p : Nat) : Nat → Nat
  | 0 => sz p - 1
  | 1 => rm p + 1
  | _ => 0
def cc_c3 (_ : Nat) : Nat → Nat
  | 2 => 1
  | _ => 0
def cc_b : Nat → Nat
  | 0 => 0
  | _ => 1
theorem cc_b1 {d : Nat} (h : d ≠ 0) : cc_b d = 1 := by
  cases d with
  | zero => exact absurd rfl h
  | succ d => rfl
theorem cc_c1_pos {sz rm : Nat → Nat} {p d : Nat} (h : 1 ≤ sz p) : 1 ≤ cc_c1 sz rm p d := by
  match d with
  | 0 => show 1 ≤ 30 * sz p; omega
  | 1 => show 1 ≤ 30 * rm p + 29; omega
  | d + 2 => exact Nat.le_refl 1
theorem cc_c3_le (p d : Nat) : cc_c3 p d ≤ 1 := by
  match d with
  | 0 => exact Nat.zero_le 1
  | 1 => exact Nat.zero_le 1
  | 2 => exact Nat.le_refl 1
  | d + 3 => exact Nat.zero_le 1
theorem cc_c3_len : ∀ T : List (Nat × Nat × Nat × Nat), cc_sm cc_c3 T ≤ T.length := by
  intro T
  induction T with
  | nil => exact Nat.le_refl 0
  | cons x t ih =>
    show cc_c3 x.1 x.2.2.1 + cc_sm cc_c3 t ≤ t.length + 1
    have := cc_c3_le x.1 x.2.2.1
    omega
def cc_dk (pK : Nat → Int32) (p d : Nat) : Prop := d = 0 ∨ (d = 1 ∧ (pK p = 7 ∨ pK p = 8 ∨ ∃ o, o < 5 ∧ pK p = nI o)) ∨ (d = 2 ∧ ∃ o, o < 5 ∧ pK p = nI o)
def cc_TI (m ca : Nat) (pK : Nat → Int32) (sz : Nat → Nat) (Q : Nat → Nat → Prop) (tP tS tD wa : Nat → Int32) : List (Nat × Nat × Nat × Nat) → Prop
  | [] => True
  | x :: t => (x.1 < m ∧ Q x.2.1 x.2.2.2 ∧ tP t.length = nI x.1 ∧ tS t.length = nI x.2.1 ∧ tD t.length = nI x.2.2.1 ∧ wa t.length = nI ((32 * x.2.2.2 + x.1) * 4 + x.2.2.1) ∧ 2 * t.length + sz x.1 ≤ 24 + 20 * ca ∧ cc_dk pK x.1 x.2.2.1 ∧ cc_hd t ≠ 0) ∧ cc_TI m ca pK sz Q tP tS tD wa t
theorem cc_TI_up {m ca ca' : Nat} {pK : Nat → Int32} {sz : Nat → Nat} {Q Q' : Nat → Nat → Prop} {tP tS tD wa tP' tS' tD' wa' : Nat → Int32} (hca : ca ≤ ca') (hQ : ∀ s l, Q s l → Q' s l) :
    ∀ T : List (Nat × Nat × Nat × Nat), (∀ i, i < T.length → tP' i = tP i ∧ tS' i = tS i ∧ tD' i = tD i ∧ wa' i = wa i) → cc_TI m ca pK sz Q tP tS tD wa T → cc_TI m ca' pK sz Q' tP' tS' tD' wa' T := by
  intro T
  induction T with
  | nil => intro _ _; trivial
  | cons x t ih =>
    intro hf ⟨⟨a1, a2, a3, a4, a5, a6, a7, a8, a9⟩, b⟩
    obtain ⟨f1, f2, f3, f4⟩ := hf t.length (Nat.lt_succ_self _)
    exact ⟨⟨a1, hQ _ _ a2, f1.trans a3, f2.trans a4, f3.trans a5, f4.trans a6, by omega, a8, a9⟩, ih (fun i hi => hf i (Nat.lt_succ_of_lt hi)) b⟩
theorem cc_TI_rep {m ca ca' q s' l' : Nat} {pK : Nat → Int32} {sz : Nat → Nat} {Q Q' : Nat → Nat → Prop} {tP tS tD wa : Nat → Int32} {x : Nat × Nat × Nat × Nat} {t : List (Nat × Nat × Nat × Nat)}
    (h : cc_TI m ca pK sz Q tP tS tD wa (x :: t)) (hca : ca ≤ ca') (hQ : ∀ s l, Q s l → Q' s l) (hq : q < m) (hq2 : Q' s' l') (hz : 2 * t.length + sz q ≤ 24 + 20 * ca') :
    cc_TI m ca' pK sz Q' (upd tP t.length (nI q)) (upd tS t.length (nI s')) (upd tD t.length 0) (upd wa t.length (nI ((32 * l' + q) * 4 + 0))) ((q, s', 0, l') :: t) := by
  obtain ⟨⟨a1, a2, a3, a4, a5, a6, a7, a8, a9⟩, b⟩ := h
  refine ⟨⟨hq, hq2, pk_us, pk_us, pk_us, pk_us, hz, Or.inl rfl, a9⟩, cc_TI_up hca hQ t (fun i hi => ?_) b⟩
  have e : i ≠ t.length := by omega
  exact ⟨pk_un e, pk_un e, pk_un e, pk_un e⟩
theorem cc_TI_next {m ca p s d l q : Nat} {pK : Nat → Int32} {sz : Nat → Nat} {Q : Nat → Nat → Prop} {tP tS tD wa : Nat → Int32} {t : List (Nat × Nat × Nat × Nat)}
    (h : cc_TI m ca pK sz Q tP tS tD wa ((p, s, d, l) :: t)) (hq : q < m) (hz : sz q + 2 ≤ sz p) (hd : cc_dk pK p (d + 1)) :
    cc_TI m ca pK sz Q (upd tP (t.length + 1) (nI q)) (upd tS (t.length + 1) (nI s)) (upd (upd tD t.length (nI (d + 1))) (t.length + 1) 0)
      (upd (upd wa t.length (nI ((32 * l + p) * 4 + (d + 1)))) (t.length + 1) (nI ((32 * l + q) * 4 + 0))) ((q, s, 0, l) :: (p, s, d + 1, l) :: t) := by
  obtain ⟨⟨a1, a2, a3, a4, a5, a6, a7, a8, a9⟩, b⟩ := h
  have e : t.length ≠ t.length + 1 := by omega
  have a7' : 2 * t.length + sz p ≤ 24 + 20 * ca := a7
  refine ⟨⟨hq, a2, pk_us, pk_us, pk_us, pk_us, ?_, Or.inl rfl, Nat.succ_ne_zero d⟩, ⟨a1, a2, (pk_un e).trans a3, (pk_un e).trans a4, (pk_un e).trans pk_us, (pk_un e).trans pk_us, a7, hd, a9⟩, cc_TI_up (Nat.le_refl ca) (fun _ _ z => z) t (fun i hi => ?_) b⟩
  · show 2 * (t.length + 1) + sz q ≤ 24 + 20 * ca
    omega
  · have e1 : i ≠ t.length + 1 := by omega
    have e2 : i ≠ t.length := by omega
    exact ⟨pk_un e1, pk_un e1, (pk_un e1).trans (pk_un e2), (pk_un e1).trans (pk_un e2)⟩
/-- the numbers -/
def cc_N (sz rm : Nat → Nat) (T : List (Nat × Nat × Nat × Nat)) (h e sc c ca : Nat) : Prop :=
  h = cc_sm cc_c3 T + cc_b (cc_hd T) ∧ 2 * e + cc_sm (cc_c2 sz rm) T + 26 * (60 - ca) ≤ 1583 ∧ sc ≤ e + 1 ∧ ca ≤ 60 ∧ cc_sm (cc_c1 sz rm) T + 59 * c + 691 * (60 - ca) ≤ 42180
def cc_M (sz rm : Nat → Nat) (T : List (Nat × Nat × Nat × Nat)) (c ca : Nat) : Nat := cc_sm (cc_c1 sz rm) T + 59 * c + 691 * (60 - ca)
end
section
/-! the invariant of a run, and how each turn keeps it -/
def cc_J (m : Nat) (pK : Nat → Int32) (sz rm : Nat → Nat) (T : List (Nat × Nat × Nat × Nat)) (h e sc c ca : Nat) (ek ew : Nat → Nat → Int32)
    (tP tS tD rK rV mK mV cP cS me mt cl wa va ic : Nat → Int32) : Prop :=
  cc_TI m ca pK sz (cc_Q sc e mK mV ek ew) tP tS tD wa T ∧ cc_C m c (cc_Q sc e mK mV ek ew) pK cP cS cl ∧ cc_V h c rK rV va ic ∧ cc_E e c me mt ek ew ∧ cc_N sz rm T h e sc c ca
theorem cc_VK_b {c : Nat} {k w : Int32} (h : cc_VK c k w) : ∃ b, b < 2 ∧ k = nI b := by
  rcases h with h | ⟨h, _⟩
  · exact ⟨0, by omega, h⟩
  · exact ⟨1, by omega, h⟩
section
variable {m : Nat} {pK : Nat → Int32} {sz rm : Nat → Nat} {t : List (Nat × Nat × Nat × Nat)} {h h0 e sc c ca : Nat} {ek ew : Nat → Nat → Int32} {tP tS tD rK rV mK mV cP cS me mt cl wa va ic : Nat → Int32}
theorem cc_J_pop {x : Nat × Nat × Nat × Nat} {k w : Int32} (J : cc_J m pK sz rm (x :: t) h e sc c ca ek ew tP tS tD rK rV mK mV cP cS me mt cl wa va ic) (hz : 1 ≤ sz x.1) (hh : h0 = cc_sm cc_c3 t) (hv : cc_VK c k w) :
    cc_J m pK sz rm t (h0 + 1) e sc c ca ek ew tP tS tD (upd rK h0 k) (upd rV h0 w) mK mV cP cS me mt cl wa (upd va h0 w) (upd ic h0 k) ∧ cc_M sz rm t c ca < cc_M sz rm (x :: t) c ca := by
  obtain ⟨hT, hC, hV, hE, hN⟩ := J
  obtain ⟨n1, n2, n3, n4, n5⟩ := hN
  have e1 : cc_sm (cc_c1 sz rm) (x :: t) = cc_c1 sz rm x.1 x.2.2.1 + cc_sm (cc_c1 sz rm) t := rfl
  have e2 : cc_sm (cc_c2 sz rm) (x :: t) = cc_c2 sz rm x.1 x.2.2.1 + cc_sm (cc_c2 sz rm) t := rfl
  have e3 : cc_sm cc_c3 (x :: t) = cc_c3 x.1 x.2.2.1 + cc_sm cc_c3 t := rfl
  have e4 := cc_c1_pos (rm := rm) (d := x.2.2.1) hz
  have e5 := cc_b1 hT.1.2.2.2.2.2.2.2.2
  refine ⟨⟨hT.2, hC, cc_V_add (cc_V_lo (by omega) (Nat.le_refl c) hV) hv, hE, ⟨by rw [e5, hh], by omega, n3, n4, by omega⟩⟩, ?_⟩
  show cc_sm (cc_c1 sz rm) t + 59 * c + 691 * (60 - ca) < cc_sm (cc_c1 sz rm) (x :: t) + 59 * c + 691 * (60 - ca)
  omega
theorem cc_J_fun {p s l : Nat} (J : cc_J m pK sz rm ((p, s, 0, l) :: t) h e sc c ca ek ew tP tS tD rK rV mK mV cP cS me mt cl wa va ic) (hz : 2 ≤ sz p) (hk : pK p = 9) :
    cc_J m pK sz rm t (h + 1) e sc (c + 1) ca ek ew tP tS tD (upd rK h 1) (upd rV h (nI c)) mK mV (upd cP c (nI p)) (upd cS c (nI s)) me mt (upd cl c (nI (32 * l + p))) wa (upd va h (nI c)) (upd ic h 1) ∧ cc_M sz rm t (c + 1) ca < cc_M sz rm ((p, s, 0, l) :: t) c ca := by
  obtain ⟨hT, hC, hV, hE, hN⟩ := J
  obtain ⟨n1, n2, n3, n4, n5⟩ := hN
  have e1 : cc_sm (cc_c1 sz rm) ((p, s, 0, l) :: t) = 30 * sz p + cc_sm (cc_c1 sz rm) t := rfl
  have e2 : cc_sm (cc_c2 sz rm) ((p, s, 0, l) :: t) = (sz p - 1) + cc_sm (cc_c2 sz rm) t := rfl
  have e3 : cc_sm cc_c3 ((p, s, 0, l) :: t) = 0 + cc_sm cc_c3 t := rfl
  have e4 : cc_b (cc_hd ((p, s, 0, l) :: t)) = 0 := rfl
  have e5 := cc_b1 hT.1.2.2.2.2.2.2.2.2
  refine ⟨⟨hT.2, cc_C_add hC hT.1.1 hT.1.2.1 hk, cc_V_add (cc_V_lo (Nat.le_refl h) (Nat.le_succ c) hV) (Or.inr ⟨rfl, c, Nat.lt_succ_self c, rfl⟩), cc_E_c (Nat.le_succ c) hE, ⟨by rw [e5]; omega, by omega, n3, n4, by omega⟩⟩, ?_⟩
  show cc_sm (cc_c1 sz rm) t + 59 * (c + 1) + 691 * (60 - ca) < cc_sm (cc_c1 sz rm) ((p, s, 0, l) :: t) + 59 * c + 691 * (60 - ca)
  omega
theorem cc_J_next0 {p s l q : Nat} (J : cc_J m pK sz rm ((p, s, 0, l) :: t) h e sc c ca ek ew tP tS tD rK rV mK mV cP cS me mt cl wa va ic) (hq : q < m) (h1 : 1 ≤ sz q) (h2 : 1 ≤ rm p) (hz : sz p = 1 + sz q + rm p) (hd : cc_dk pK p 1) :
    cc_J m pK sz rm ((q, s, 0, l) :: (p, s, 1, l) :: t) h e sc c ca ek ew (upd tP (t.length + 1) (nI q)) (upd tS (t.length + 1) (nI s)) (upd (upd tD t.length (nI 1)) (t.length + 1) 0) rK rV mK mV cP cS me mt cl
      (upd (upd wa t.length (nI ((32 * l + p) * 4 + 1))) (t.length + 1) (nI ((32 * l + q) * 4 + 0))) va ic ∧ cc_M sz rm ((q, s, 0, l) :: (p, s, 1, l) :: t) c ca < cc_M sz rm ((p, s, 0, l) :: t) c ca := by
  obtain ⟨hT, hC, hV, hE, hN⟩ := J
  obtain ⟨n1, n2, n3, n4, n5⟩ := hN
  have e1 : cc_sm (cc_c1 sz rm) ((p, s, 0, l) :: t) = 30 * sz p + cc_sm (cc_c1 sz rm) t := rfl
  have e2 : cc_sm (cc_c2 sz rm) ((p, s, 0, l) :: t) = (sz p - 1) + cc_sm (cc_c2 sz rm) t := rfl
  have e3 : cc_sm cc_c3 ((p, s, 0, l) :: t) = 0 + cc_sm cc_c3 t := rfl
  have e4 : cc_b (cc_hd ((p, s, 0, l) :: t)) = 0 := rfl
  have f1 : cc_sm (cc_c1 sz rm) ((q, s, 0, l) :: (p, s, 1, l) :: t) = 30 * sz q + ((30 * rm p + 29) + cc_sm (cc_c1 sz rm) t) := rfl
  have f2 : cc_sm (cc_c2 sz rm) ((q, s, 0, l) :: (p, s, 1, l) :: t) = (sz q - 1) + ((rm p + 1) + cc_sm (cc_c2 sz rm) t) := rfl
  have f3 : cc_sm cc_c3 ((q, s, 0, l) :: (p, s, 1, l) :: t) = 0 + (0 + cc_sm cc_c3 t) := rfl
  have f4 : cc_b (cc_hd ((q, s, 0, l) :: (p, s, 1, l) :: t)) = 0 := rfl
  refine ⟨⟨cc_TI_next hT hq (by omega) hd, hC, hV, hE, ⟨by omega, by omega, n3, n4, by omega⟩⟩, ?_⟩
  show cc_sm (cc_c1 sz rm) ((q, s, 0, l) :: (p, s, 1, l) :: t) + 59 * c + 691 * (60 - ca) < cc_sm (cc_c1 sz rm) ((p, s, 0, l) :: t) + 59 * c + 691 * (60 - ca)
  omega
theorem cc_J_next1 {p s l q : Nat} (J : cc_J m pK sz rm ((p, s, 1, l) :: t) h e sc c ca ek ew tP tS tD rK rV mK mV cP cS me mt cl wa va ic) (hq : q < m) (h1 : 1 ≤ sz q) (h2 : rm p = sz q) (hz : sz q + 2 ≤ sz p) (hd : cc_dk pK p 2) :
    cc_J m pK sz rm ((q, s, 0, l) :: (p, s, 2, l) :: t) h e sc c ca ek ew (upd tP (t.length + 1) (nI q)) (upd tS (t.length + 1) (nI s)) (upd (upd tD t.length (nI 2)) (t.length + 1) 0) rK rV mK mV cP cS me mt cl
      (upd (upd wa t.length (nI ((32 * l + p) * 4 + 2))) (t.length + 1) (nI ((32 * l + q) * 4 + 0))) va ic ∧ cc_M sz rm ((q, s, 0, l) :: (p, s, 2, l) :: t) c ca < cc_M sz rm ((p, s, 1, l) :: t) c ca := by
  obtain ⟨hT, hC, hV, hE, hN⟩ := J
  obtain ⟨n1, n2, n3, n4, n5⟩ := hN
  have e1 : cc_sm (cc_c1 sz rm) ((p, s, 1, l) :: t) = (30 * rm p + 29) + cc_sm (cc_c1 sz rm) t := rfl
  have e2 : cc_sm (cc_c2 sz rm) ((p, s, 1, l) :: t) = (rm p + 1) + cc_sm (cc_c2 sz rm) t := rfl
  have e3 : cc_sm cc_c3 ((p, s, 1, l) :: t) = 0 + cc_sm cc_c3 t := rfl
  have e4 : cc_b (cc_hd ((p, s, 1, l) :: t)) = 1 := rfl
  have f1 : cc_sm (cc_c1 sz rm) ((q, s, 0, l) :: (p, s, 2, l) :: t) = 30 * sz q + (1 + cc_sm (cc_c1 sz rm) t) := rfl
  have f2 : cc_sm (cc_c2 sz rm) ((q, s, 0, l) :: (p, s, 2, l) :: t) = (sz q - 1) + (0 + cc_sm (cc_c2 sz rm) t) := rfl
  have f3 : cc_sm cc_c3 ((q, s, 0, l) :: (p, s, 2, l) :: t) = 0 + (1 + cc_sm cc_c3 t) := rfl
  have f4 : cc_b (cc_hd ((q, s, 0, l) :: (p, s, 2, l) :: t)) = 0 := rfl
  refine ⟨⟨cc_TI_next hT hq hz hd, hC, hV, hE, ⟨by omega, by omega, n3, n4, by omega⟩⟩, ?_⟩
  show cc_sm (cc_c1 sz rm) ((q, s, 0, l) :: (p, s, 2, l) :: t) + 59 * c + 691 * (60 - ca) < cc_sm (cc_c1 sz rm) ((p, s, 1, l) :: t) + 59 * c + 691 * (60 - ca)
  omega
theorem cc_J_choose {p s l q : Nat} (J : cc_J m pK sz rm ((p, s, 1, l) :: t) (h0 + 1) e sc c ca ek ew tP tS tD rK rV mK mV cP cS me mt cl wa va ic) (hq : q < m) (h1 : 1 ≤ sz q) (h2 : sz q ≤ rm p) (hz : sz q ≤ sz p) :
    cc_J m pK sz rm ((q, s, 0, l) :: t) h0 e sc c ca ek ew (upd tP t.length (nI q)) (upd tS t.length (nI s)) (upd tD t.length 0) rK rV mK mV cP cS me mt cl (upd wa t.length (nI ((32 * l + q) * 4 + 0))) va ic
      ∧ cc_M sz rm ((q, s, 0, l) :: t) c ca < cc_M sz rm ((p, s, 1, l) :: t) c ca := by
  obtain ⟨hT, hC, hV, hE, hN⟩ := J
  obtain ⟨n1, n2, n3, n4, n5⟩ := hN
  have e1 : cc_sm (cc_c1 sz rm) ((p, s, 1, l) :: t) = (30 * rm p + 29) + cc_sm (cc_c1 sz rm) t := rfl
  have e2 : cc_sm (cc_c2 sz rm) ((p, s, 1, l) :: t) = (rm p + 1) + cc_sm (cc_c2 sz rm) t := rfl
  have e3 : cc_sm cc_c3 ((p, s, 1, l) :: t) = 0 + cc_sm cc_c3 t := rfl
  have e4 : cc_b (cc_hd ((p, s, 1, l) :: t)) = 1 := rfl
  have f1 : cc_sm (cc_c1 sz rm) ((q, s, 0, l) :: t) = 30 * sz q + cc_sm (cc_c1 sz rm) t := rfl
  have f2 : cc_sm (cc_c2 sz rm) ((q, s, 0, l) :: t) = (sz q - 1) + cc_sm (cc_c2 sz rm) t := rfl
  have f3 : cc_sm cc_c3 ((q, s, 0, l) :: t) = 0 + cc_sm cc_c3 t := rfl
  have f4 : cc_b (cc_hd ((q, s, 0, l) :: t)) = 0 := rfl
  have g : 2 * t.length + sz p ≤ 24 + 20 * ca := hT.1.2.2.2.2.2.2.1
  refine ⟨⟨cc_TI_rep hT (Nat.le_refl ca) (fun _ _ z => z) hq hT.1.2.1 (by omega), hC, cc_V_lo (Nat.le_succ h0) (Nat.le_refl c) hV, hE, ⟨by omega, by omega, n3, n4, by omega⟩⟩, ?_⟩
  show cc_sm (cc_c1 sz rm) ((q, s, 0, l) :: t) + 59 * c + 691 * (60 - ca) < cc_sm (cc_c1 sz rm) ((p, s, 1, l) :: t) + 59 * c + 691 * (60 - ca)
  omega
theorem cc_J_bind {p s l q w b : Nat} {mK' mV' : Nat → Int32} {x : Int32} (J : cc_J m pK sz rm ((p, s, 1, l) :: t) (h0 + 1) e sc c ca ek ew tP tS tD rK rV mK mV cP cS me mt cl wa va ic) (hq : q < m) (h1 : 1 ≤ sz q) (h2 : sz q ≤ rm p) (hz : sz q ≤ sz p)
    (hw : w < 4) (hb : b < 2) (hv : cc_VK c (nI b) x) (hlo : ∀ j, j < sc * 4 → mK' j = mK j ∧ mV' j = mV j) (hnew : ∀ v, v < 4 → mK' (sc * 4 + v) = (if v = w then nI b else mK (s * 4 + v)) ∧ mV' (sc * 4 + v) = (if v = w then x else mV (s * 4 + v))) :
    cc_J m pK sz rm ((q, sc, 0, e + 1) :: t) h0 (e + 1) (sc + 1) c ca (cc_xe ek e l w (nI b)) (cc_xe ew e l w x) (upd tP t.length (nI q)) (upd tS t.length (nI sc)) (upd tD t.length 0) rK rV mK' mV' cP cS (upd me e (nI (8 * l + 2 * w + b))) (upd mt e x) cl (upd wa t.length (nI ((32 * (e + 1) + q) * 4 + 0))) va ic
      ∧ cc_M sz rm ((q, sc, 0, e + 1) :: t) c ca < cc_M sz rm ((p, s, 1, l) :: t) c ca := by
  obtain ⟨hT, hC, hV, hE, hN⟩ := J
  obtain ⟨n1, n2, n3, n4, n5⟩ := hN
  have e1 : cc_sm (cc_c1 sz rm) ((p, s, 1, l) :: t) = (30 * rm p + 29) + cc_sm (cc_c1 sz rm) t := rfl
  have e2 : cc_sm (cc_c2 sz rm) ((p, s, 1, l) :: t) = (rm p + 1) + cc_sm (cc_c2 sz rm) t := rfl
  have e3 : cc_sm cc_c3 ((p, s, 1, l) :: t) = 0 + cc_sm cc_c3 t := rfl
  have e4 : cc_b (cc_hd ((p, s, 1, l) :: t)) = 1 := rfl
  have f1 : cc_sm (cc_c1 sz rm) ((q, sc, 0, e + 1) :: t) = 30 * sz q + cc_sm (cc_c1 sz rm) t := rfl
  have f2 : cc_sm (cc_c2 sz rm) ((q, sc, 0, e + 1) :: t) = (sz q - 1) + cc_sm (cc_c2 sz rm) t := rfl
  have f3 : cc_sm cc_c3 ((q, sc, 0, e + 1) :: t) = 0 + cc_sm cc_c3 t := rfl
  have f4 : cc_b (cc_hd ((q, sc, 0, e + 1) :: t)) = 0 := rfl
  have g : 2 * t.length + sz p ≤ 24 + 20 * ca := hT.1.2.2.2.2.2.2.1
  obtain ⟨q1, q2, q3⟩ : cc_Q sc e mK mV ek ew s l := hT.1.2.1
  have hQ : ∀ s1 l1, cc_Q sc e mK mV ek ew s1 l1 → cc_Q (sc + 1) (e + 1) mK' mV' (cc_xe ek e l w (nI b)) (cc_xe ew e l w x) s1 l1 :=
    cc_Q_up (Nat.le_succ sc) (Nat.le_succ e) hlo (fun l1 v hl1 => ⟨cc_xe_n (by omega), cc_xe_n (by omega)⟩)
  have hQn : cc_Q (sc + 1) (e + 1) mK' mV' (cc_xe ek e l w (nI b)) (cc_xe ew e l w x) sc (e + 1) := by
    refine ⟨Nat.lt_succ_self sc, Nat.le_refl _, fun v hv1 => ?_⟩
    obtain ⟨k1, k2⟩ := hnew v hv1
    obtain ⟨k3, k4⟩ := q3 v hv1
    rw [cc_xe_s, cc_xe_s, k1, k2, k3, k4]
    exact ⟨rfl, rfl⟩
  refine ⟨⟨cc_TI_rep hT (Nat.le_refl ca) hQ hq hQn (by omega), cc_C_up hQ hC, cc_V_lo (Nat.le_succ h0) (Nat.le_refl c) hV, cc_E_add hE q2 hw hb hv, ⟨by omega, by omega, by omega, n4, by omega⟩⟩, ?_⟩
  show cc_sm (cc_c1 sz rm) ((q, sc, 0, e + 1) :: t) + 59 * c + 691 * (60 - ca) < cc_sm (cc_c1 sz rm) ((p, s, 1, l) :: t) + 59 * c + 691 * (60 - ca)
  omega
theorem cc_J_call {p s l q w b f s1 l1 j : Nat} {mK' mV' : Nat → Int32} {x : Int32} (J : cc_J m pK sz rm ((p, s, 2, l) :: t) (h0 + 2) e sc c ca ek ew tP tS tD rK rV mK mV cP cS me mt cl wa va ic) (hq : q < m) (h1 : 1 ≤ sz q) (h2 : sz q ≤ 23) (hz : 3 ≤ sz p) (hca : ca < 60)
    (hw : w < 4) (hf : f < 4) (hb : b < 2) (hj : j < c) (hv : cc_VK c (nI b) x) (hQ1 : cc_Q sc e mK mV ek ew s1 l1) (hlo : ∀ j, j < sc * 4 → mK' j = mK j ∧ mV' j = mV j)
    (hnew : ∀ v, v < 4 → mK' (sc * 4 + v) = (if v = w then nI b else if v = f then nI 1 else mK (s1 * 4 + v)) ∧ mV' (sc * 4 + v) = (if v = w then x else if v = f then nI j else mV (s1 * 4 + v))) :
    cc_J m pK sz rm ((q, sc, 0, e + 2) :: t) h0 (e + 2) (sc + 1) c (ca + 1) (cc_xe (cc_xe ek e l1 f (nI 1)) (e + 1) (e + 1) w (nI b)) (cc_xe (cc_xe ew e l1 f (nI j)) (e + 1) (e + 1) w x) (upd tP t.length (nI q)) (upd tS t.length (nI sc)) (upd tD t.length 0) rK rV mK' mV' cP cS
        (upd (upd me e (nI (8 * l1 + 2 * f + 1))) (e + 1) (nI (8 * (e + 1) + 2 * w + b))) (upd (upd mt e (nI j)) (e + 1) x) cl (upd wa t.length (nI ((32 * (e + 2) + q) * 4 + 0))) va ic
      ∧ cc_M sz rm ((q, sc, 0, e + 2) :: t) c (ca + 1) < cc_M sz rm ((p, s, 2, l) :: t) c ca := by
  obtain ⟨hT, hC, hV, hE, hN⟩ := J
  obtain ⟨n1, n2, n3, n4, n5⟩ := hN
  have e1 : cc_sm (cc_c1 sz rm) ((p, s, 2, l) :: t) = 1 + cc_sm (cc_c1 sz rm) t := rfl
  have e2 : cc_sm (cc_c2 sz rm) ((p, s, 2, l) :: t) = 0 + cc_sm (cc_c2 sz rm) t := rfl
  have e3 : cc_sm cc_c3 ((p, s, 2, l) :: t) = 1 + cc_sm cc_c3 t := rfl
  have e4 : cc_b (cc_hd ((p, s, 2, l) :: t)) = 1 := rfl
  have f1 : cc_sm (cc_c1 sz rm) ((q, sc, 0, e + 2) :: t) = 30 * sz q + cc_sm (cc_c1 sz rm) t := rfl
  have f2 : cc_sm (cc_c2 sz rm) ((q, sc, 0, e + 2) :: t) = (sz q - 1) + cc_sm (cc_c2 sz rm) t := rfl
  have f3 : cc_sm cc_c3 ((q, sc, 0, e + 2) :: t) = 0 + cc_sm cc_c3 t := rfl
  have f4 : cc_b (cc_hd ((q, sc, 0, e + 2) :: t)) = 0 := rfl
  have g : 2 * t.length + sz p ≤ 24 + 20 * ca := hT.1.2.2.2.2.2.2.1
  obtain ⟨q1, q2, q3⟩ := hQ1
  have hQ : ∀ s1' l1', cc_Q sc e mK mV ek ew s1' l1' → cc_Q (sc + 1) (e + 2) mK' mV' (cc_xe (cc_xe ek e l1 f (nI 1)) (e + 1) (e + 1) w (nI b)) (cc_xe (cc_xe ew e l1 f (nI j)) (e + 1) (e + 1) w x) s1' l1' :=
    cc_Q_up (Nat.le_succ sc) (by omega) hlo (fun l2 v hl2 => ⟨(cc_xe_n (by omega)).trans (cc_xe_n (by omega)), (cc_xe_n (by omega)).trans (cc_xe_n (by omega))⟩)
  have hQn : cc_Q (sc + 1) (e + 2) mK' mV' (cc_xe (cc_xe ek e l1 f (nI 1)) (e + 1) (e + 1) w (nI b)) (cc_xe (cc_xe ew e l1 f (nI j)) (e + 1) (e + 1) w x) sc (e + 2) := by
    refine ⟨Nat.lt_succ_self sc, Nat.le_refl _, fun v hv1 => ?_⟩
    obtain ⟨k1, k2⟩ := hnew v hv1
    obtain ⟨k3, k4⟩ := q3 v hv1
    have a1 : cc_xe (cc_xe ek e l1 f (nI 1)) (e + 1) (e + 1) w (nI b) (e + 2) v = if v = w then nI b else if v = f then nI 1 else ek l1 v := by
      rw [show e + 2 = (e + 1) + 1 from rfl, cc_xe_s, cc_xe_s]
    have a2 : cc_xe (cc_xe ew e l1 f (nI j)) (e + 1) (e + 1) w x (e + 2) v = if v = w then x else if v = f then nI j else ew l1 v := by
      rw [show e + 2 = (e + 1) + 1 from rfl, cc_xe_s, cc_xe_s]
    rw [a1, a2, k1, k2, k3, k4]
    exact ⟨rfl, rfl⟩
  refine ⟨⟨cc_TI_rep hT (Nat.le_succ ca) hQ hq hQn (by omega), cc_C_up hQ hC, cc_V_lo (by omega) (Nat.le_refl c) hV, cc_E_add (cc_E_add hE q2 hf (by omega) (Or.inr ⟨rfl, j, hj, rfl⟩)) (Nat.le_refl _) hw hb hv, ⟨by omega, by omega, by omega, by omega, by omega⟩⟩, ?_⟩
  show cc_sm (cc_c1 sz rm) ((q, sc, 0, e + 2) :: t) + 59 * c + 691 * (60 - (ca + 1)) < cc_sm (cc_c1 sz rm) ((p, s, 2, l) :: t) + 59 * c + 691 * (60 - ca)
  omega
/-- what the bounds say -/
theorem cc_J_len {x : Nat × Nat × Nat × Nat} (J : cc_J m pK sz rm (x :: t) h e sc c ca ek ew tP tS tD rK rV mK mV cP cS me mt cl wa va ic) (hz : 1 ≤ sz x.1) : t.length ≤ 611 ∧ 2 * t.length + sz x.1 ≤ 1224 ∧ h ≤ 613 ∧ 2 * e + cc_sm (cc_c2 sz rm) (x :: t) + 26 * (60 - ca) ≤ 1583 ∧ sc ≤ e + 1 ∧ ca ≤ 60 ∧ c ≤ 714 := by
  obtain ⟨hT, hC, hV, hE, n1, n2, n3, n4, n5⟩ := J
  have g : 2 * t.length + sz x.1 ≤ 24 + 20 * ca := hT.1.2.2.2.2.2.2.1
  have g2 := cc_c3_len (x :: t)
  have g3 : (x :: t).length = t.length + 1 := rfl
  have g4 : cc_b (cc_hd (x :: t)) ≤ 1 := by
    generalize cc_hd (x :: t) = d
    cases d with
    | zero => exact Nat.zero_le 1
    | succ d => exact Nat.le_refl 1
  refine ⟨by omega, by omega, by omega, n2, n3, n4, by omega⟩
end
end
section
/-! scopes written cell by cell; packed numbers -/
def cc_os (A : Nat → Int32) (sc o : Nat) : Nat → Nat → Int32
  | 0 => A
  | v + 1 => upd (cc_os A sc o v) (sc * 4 + v) (cc_os A sc o v (o * 4 + v))
theorem cc_os_lo {A : Nat → Int32} {sc o : Nat} : ∀ n j : Nat, j < sc * 4 → cc_os A sc o n j = A j := by
  intro n
  induction n with
  | zero => intro j _; rfl
  | succ n ih =>
    intro j hj
    show upd (cc_os A sc o n) (sc * 4 + n) (cc_os A sc o n (o * 4 + n)) j = A j
    rw [pk_un (by omega), ih j hj]
theorem cc_os_at {A : Nat → Int32} {sc o : Nat} (ho : o < sc) : ∀ n : Nat, n ≤ 4 → ∀ v, v < n → cc_os A sc o n (sc * 4 + v) = A (o * 4 + v) := by
  intro n
  induction n with
  | zero => intro _ v hv; omega
  | succ n ih =>
    intro hn v hv
    show upd (cc_os A sc o n) (sc * 4 + n) (cc_os A sc o n (o * 4 + n)) (sc * 4 + v) = A (o * 4 + v)
    by_cases e : v = n
    · rw [e, pk_us, cc_os_lo n (o * 4 + n) (by omega)]
    · rw [pk_un (by omega), ih (by omega) v (by omega)]
theorem cc_os_b {A : Nat → Int32} {sc o w : Nat} {x : Int32} (ho : o < sc) : (∀ j, j < sc * 4 → upd (cc_os A sc o 4) (sc * 4 + w) x j = A j) ∧ ∀ v, v < 4 → upd (cc_os A sc o 4) (sc * 4 + w) x (sc * 4 + v) = if v = w then x else A (o * 4 + v) := by
  refine ⟨fun j hj => ?_, fun v hv => ?_⟩
  · rw [pk_un (by omega), cc_os_lo 4 j hj]
  · by_cases e : v = w
    · rw [if_pos e, e, pk_us]
    · rw [if_neg e, pk_un (by omega), cc_os_at ho 4 (Nat.le_refl 4) v hv]
theorem cc_os_c {A : Nat → Int32} {sc o w f : Nat} {x y : Int32} (ho : o < sc) : (∀ j, j < sc * 4 → upd (upd (cc_os A sc o 4) (sc * 4 + f) y) (sc * 4 + w) x j = A j) ∧ ∀ v, v < 4 → upd (upd (cc_os A sc o 4) (sc * 4 + f) y) (sc * 4 + w) x (sc * 4 + v) = if v = w then x else if v = f then y else A (o * 4 + v) := by
  refine ⟨fun j hj => ?_, fun v hv => ?_⟩
  · rw [pk_un (by omega), pk_un (by omega), cc_os_lo 4 j hj]
  · by_cases e : v = w
    · rw [if_pos e, e, pk_us]
    · rw [if_neg e, pk_un (by omega)]
      by_cases e2 : v = f
      · rw [if_pos e2, e2, pk_us]
      · rw [if_neg e2, pk_un (by omega), cc_os_at ho 4 (Nat.le_refl 4) v hv]
def cc_fl (A : Nat → Int32) (x : Int32) : Nat → Nat → Int32
  | 0 => A
  | v + 1 => upd (cc_fl A x v) (0 * 4 + v) x
theorem cc_fl_at {A : Nat → Int32} {x : Int32} : ∀ n v : Nat, v < n → cc_fl A x n (0 * 4 + v) = x := by
  intro n
  induction n with
  | zero => intro v hv; omega
  | succ n ih =>
    intro v hv
    show upd (cc_fl A x n) (0 * 4 + n) x (0 * 4 + v) = x
    by_cases e : v = n
    · rw [e]; exact pk_us
    · rw [pk_un (by omega)]; exact ih v (by omega)
theorem cc_q4 {a : Nat} (ha : a < 2 ^ 31) : nI a / 4 = nI (a / 4) := pk_div (d := 4) ha (by decide) (by decide)
theorem cc_q2 {a : Nat} (ha : a < 2 ^ 31) : nI a / 2 = nI (a / 2) := pk_div (d := 2) ha (by decide) (by decide)
theorem cc_q8 {a : Nat} (ha : a < 2 ^ 31) : nI a / 8 = nI (a / 8) := pk_div (d := 8) ha (by decide) (by decide)
theorem cc_q32 {a : Nat} (ha : a < 2 ^ 31) : nI a / 32 = nI (a / 32) := pk_div (d := 32) ha (by decide) (by decide)
theorem cc_q128 {a : Nat} (ha : a < 2 ^ 31) : nI a / 128 = nI (a / 128) := pk_div (d := 128) ha (by decide) (by decide)
theorem cc_r4 {a : Nat} (ha : a < 2 ^ 31) : nI a - nI a / 4 * 4 = nI (a % 4) := pk_rem (d := 4) ha (by decide) (by decide)
theorem cc_r2 {a : Nat} (ha : a < 2 ^ 31) : nI a - nI a / 2 * 2 = nI (a % 2) := pk_rem (d := 2) ha (by decide) (by decide)
theorem cc_r32 {a : Nat} (ha : a < 2 ^ 31) : nI a - nI a / 32 * 32 = nI (a % 32) := pk_rem (d := 32) ha (by decide) (by decide)
theorem cc_wd {l p d : Nat} (hl : l ≤ 800) (hp : p < 24) (hd : d < 3) : nI ((32 * l + p) * 4 + d) - nI ((32 * l + p) * 4 + d) / 4 * 4 = nI d := by
  rw [cc_r4 (by omega), show ((32 * l + p) * 4 + d) % 4 = d by omega]
theorem cc_wp {l p d : Nat} (hl : l ≤ 800) (hp : p < 24) (hd : d < 3) : nI ((32 * l + p) * 4 + d) / 4 - nI ((32 * l + p) * 4 + d) / 4 / 32 * 32 = nI p := by
  rw [cc_q4 (by omega), cc_r32 (by omega), show ((32 * l + p) * 4 + d) / 4 % 32 = p by omega]
theorem cc_wl {l p d : Nat} (hl : l ≤ 800) (hp : p < 24) (hd : d < 3) : nI ((32 * l + p) * 4 + d) / 128 = nI l := by
  rw [cc_q128 (by omega), show ((32 * l + p) * 4 + d) / 128 = l by omega]
theorem cc_ml {l n b : Nat} (hl : l ≤ 800) (hn : n < 4) (hb : b < 2) : nI (8 * l + 2 * n + b) / 8 = nI l := by
  rw [cc_q8 (by omega), show (8 * l + 2 * n + b) / 8 = l by omega]
theorem cc_mn {l n b : Nat} (hl : l ≤ 800) (hn : n < 4) (hb : b < 2) : nI (8 * l + 2 * n + b) / 2 - nI (8 * l + 2 * n + b) / 2 / 4 * 4 = nI n := by
  rw [cc_q2 (by omega), cc_r4 (by omega), show (8 * l + 2 * n + b) / 2 % 4 = n by omega]
theorem cc_mb {l n b : Nat} (hl : l ≤ 800) (hn : n < 4) (hb : b < 2) : nI (8 * l + 2 * n + b) - nI (8 * l + 2 * n + b) / 2 * 2 = nI b := by
  rw [cc_r2 (by omega), show (8 * l + 2 * n + b) % 2 = b by omega]
theorem cc_kp {l p : Nat} (hl : l ≤ 800) (hp : p < 24) : nI (32 * l + p) - nI (32 * l + p) / 32 * 32 = nI p := by
  rw [cc_r32 (by omega), show (32 * l + p) % 32 = p by omega]
theorem cc_kl {l p : Nat} (hl : l ≤ 800) (hp : p < 24) : nI (32 * l + p) / 32 = nI l := by
  rw [cc_q32 (by omega), show (32 * l + p) / 32 = l by omega]
theorem cc_nf {f w : Nat} (hf : f < 4) (hw : w < 4) : nI (4 * f + w) / 4 = nI f := by
  rw [cc_q4 (by omega), show (4 * f + w) / 4 = f by omega]
theorem cc_nw {f w : Nat} (hf : f < 4) (hw : w < 4) : nI (4 * f + w) - nI (4 * f + w) / 4 * 4 = nI w := by
  rw [cc_r4 (by omega), show (4 * f + w) % 4 = w by omega]
theorem cc_ko : ∀ o, o < 5 → ¬ nI o = 5 ∧ ¬ nI o = 6 ∧ ¬ nI o = 7 ∧ ¬ nI o = 8 ∧ ¬ nI o = 9 := by decide +kernel
end
section
/-! X's own methods, each with a general post -/
def cc_ar (o : Nat) (x y : Int32) : Int32 := if o = 0 then x + y else if o = 1 then x - y else if o = 2 then x * y else if x < y then 1 else 0
theorem cc_x4 (s v : Nat) : nI s * 4 + nI v = nI (s * 4 + v) := by
  rw [show nI s * 4 = nI (s * 4) from pk_mul s 4, nI_add]
theorem cc_x3 (s v : Nat) : nI s * 3 + nI v = nI (3 * s + v) := by
  rw [show nI s * 3 = nI (s * 3) from pk_mul s 3, nI_add, Nat.mul_comm]
theorem cc_x30 (s : Nat) : nI s * 3 = nI (3 * s) := by
  rw [show nI s * 3 = nI (s * 3) from pk_mul s 3, Nat.mul_comm]
theorem cc_p2 {a : Nat} : nI (a + 2) - 2 = nI a := by
  have h := pk_sub (a := a + 2) (b := 2) (by omega)
  rw [Nat.add_sub_cancel] at h
  exact h
section
variable {mC sS tC rC sC cC kC en : Int32} {pK pD pS pP pF stk tP tS tD rK rV mK mV cP cS : Nat → Int32} {post : SX → Prop} {posr : Int32 → SX → Prop} {pos : Int32 → Prop}
theorem xx_replaceTask {t : Nat} {a b : Int32} (ht : t < 1464) (hp : post (mC, sS, nI (t + 1), rC, sC, cC, kC, en, pK, pD, pS, pP, pF, stk, upd tP t a, upd tS t b, upd tD t 0, rK, rV, mK, mV, cP, cS)) : wpX_replaceTask post (mC, sS, nI (t + 1), rC, sC, cC, kC, en, pK, pD, pS, pP, pF, stk, tP, tS, tD, rK, rV, mK, mV, cP, cS) a b := by
  have h1 : t < 2 ^ 31 := by omega
  have hv : vp_in (nI t) 1464 := vp_in_nI ht (by decide)
  simp only [wpX_replaceTask, forall_eq, nI_pred, nI_clamp h1, hv, true_and]
  exact hp
theorem xx_beginTask {t : Nat} {a b : Int32} (ht : t < 1464) (hp : post (mC, sS, nI (t + 1), rC, sC, cC, kC, en, pK, pD, pS, pP, pF, stk, upd tP t a, upd tS t b, upd tD t 0, rK, rV, mK, mV, cP, cS)) : wpX_beginTask post (mC, sS, nI t, rC, sC, cC, kC, en, pK, pD, pS, pP, pF, stk, tP, tS, tD, rK, rV, mK, mV, cP, cS) a b := by
  simp only [wpX_beginTask, forall_eq, nI_1]
  exact xx_replaceTask ht hp
theorem xx_endTask {t h : Nat} {k w : Int32} (hh : h < 1464) (hp : post (mC, sS, nI t, nI (h + 1), sC, cC, kC, en, pK, pD, pS, pP, pF, stk, tP, tS, tD, upd rK h k, upd rV h w, mK, mV, cP, cS)) : wpX_endTask post (mC, sS, nI (t + 1), nI h, sC, cC, kC, en, pK, pD, pS, pP, pF, stk, tP, tS, tD, rK, rV, mK, mV, cP, cS) k w := by
  have h1 : h < 2 ^ 31 := by omega
  have hv : vp_in (nI h) 1464 := vp_in_nI hh (by decide)
  simp only [wpX_endTask, forall_eq, nI_pred, nI_1, nI_clamp h1, hv, true_and]
  exact hp
theorem xx_setMeaning {s v : Nat} {k w : Int32} (hs : s * 4 + v < 5860) (hp : post (mC, sS, tC, rC, sC, cC, kC, en, pK, pD, pS, pP, pF, stk, tP, tS, tD, rK, rV, upd mK (s * 4 + v) k, upd mV (s * 4 + v) w, cP, cS)) : wpX_setMeaning post (mC, sS, tC, rC, sC, cC, kC, en, pK, pD, pS, pP, pF, stk, tP, tS, tD, rK, rV, mK, mV, cP, cS) (nI s) (nI v) k w := by
  have h1 : s * 4 + v < 2 ^ 31 := by omega
  have hv : vp_in (nI (s * 4 + v)) 5860 := vp_in_nI hs (by decide)
  simp only [wpX_setMeaning, forall_eq, cc_x4, nI_clamp h1, hv, true_and]
  exact hp
theorem xx_parts0 {k : Int32} (hk : k = 5 ∨ k = 6 ∨ k = 9) (hp : pos 0) : wpX_partsWorkedOutFirst pos k := by
  rcases hk with h | h | h <;> subst h
  · exact br_f (by decide) (br_f (by decide) (br_t rfl hp))
  · exact br_f (by decide) (br_f (by decide) (br_f (by decide) (br_t rfl hp)))
  · exact br_f (by decide) (br_f (by decide) (br_f (by decide) (br_f (by decide) (br_f (by decide) (br_f (by decide) (br_t rfl hp))))))
theorem xx_parts1 {k : Int32} (hk : k = 7 ∨ k = 8) (hp : pos 1) : wpX_partsWorkedOutFirst pos k := by
  rcases hk with h | h <;> subst h
  · exact br_f (by decide) (br_f (by decide) (br_f (by decide) (br_f (by decide) (br_t rfl hp))))
  · exact br_f (by decide) (br_f (by decide) (br_f (by decide) (br_f (by decide) (br_f (by decide) (br_t rfl hp)))))
theorem xx_parts2 {o : Nat} (ho : o < 5) (hp : pos 2) : wpX_partsWorkedOutFirst pos (nI o) := by
  exact br_t (nI_lt (b := 5) ho (by decide)) hp
theorem xx_beginNextPart {t p s q dd : Nat} (ht : t + 1 < 1464) (hp1 : p < 24) (hd : dd < 3) (e1 : tP t = nI p) (e2 : tS t = nI s) (e3 : tD t = nI dd) (e4 : pP (3 * p + dd) = nI q)
    (hp : post (mC, sS, nI (t + 1 + 1), rC, sC, cC, kC, en, pK, pD, pS, pP, pF, stk, upd tP (t + 1) (nI q), upd tS (t + 1) (nI s), upd (upd tD t (nI (dd + 1))) (t + 1) 0, rK, rV, mK, mV, cP, cS)) : wpX_beginNextPart post (mC, sS, nI (t + 1), rC, sC, cC, kC, en, pK, pD, pS, pP, pF, stk, tP, tS, tD, rK, rV, mK, mV, cP, cS) := by
  have h1 : t < 2 ^ 31 := by omega
  have h2 : 3 * p + dd < 2 ^ 31 := by omega
  have hv : vp_in (nI t) 1464 := vp_in_nI (by omega) (by decide)
  have hv2 : vp_in (nI (3 * p + dd)) 72 := vp_in_nI (by omega) (by decide)
  simp only [wpX_beginNextPart, forall_eq, nI_pred, nI_1, nI_clamp h1, nI_clamp h2, e1, e2, e3, cc_x3, hv, hv2, e4, true_and]
  exact xx_beginTask ht hp
theorem xx_needs {t p dd nn : Nat} {r : Int32} (ht : t < 1464) (hp1 : p < 24) (hd : dd < 3) (hn : nn < 3) (e1 : tP t = nI p) (e3 : tD t = nI dd) (hr : (dd < nn ∧ r = 1) ∨ (¬ dd < nn ∧ r = 0))
    (hk : ∀ P : Int32 → Prop, P (nI nn) → wpX_partsWorkedOutFirst P (pK p)) (hp : pos r) : wpX_topTaskNeedsPart pos (mC, sS, nI (t + 1), rC, sC, cC, kC, en, pK, pD, pS, pP, pF, stk, tP, tS, tD, rK, rV, mK, mV, cP, cS) := by
  have h1 : t < 2 ^ 31 := by omega
  have h2 : p < 2 ^ 31 := by omega
  have hv : vp_in (nI t) 1464 := vp_in_nI (by omega) (by decide)
  have hv2 : vp_in (nI p) 24 := vp_in_nI (by omega) (by decide)
  simp only [wpX_topTaskNeedsPart, forall_eq, nI_pred, nI_clamp h1, nI_clamp h2, e1, e3, hv, hv2, true_and]
  refine hk _ ?_
  rcases hr with ⟨h, rfl⟩ | ⟨h, rfl⟩
  · exact pk_le nn dd (fun z => absurd z (by omega)) (fun _ => hp)
  · exact pk_le nn dd (fun _ => hp) (fun z => absurd z (by omega))
theorem xx_completeName1 {p s w t h : Nat} (hp1 : p < 24) (hs : s < 1465) (hw : w < 4) (hh : h < 1464) (e1 : pD p = nI w) (hk : ¬ mK (s * 4 + w) = -1)
    (hp : post (mC, sS, nI t, nI (h + 1), sC, cC, kC, en, pK, pD, pS, pP, pF, stk, tP, tS, tD, upd rK h (mK (s * 4 + w)), upd rV h (mV (s * 4 + w)), mK, mV, cP, cS)) : wpX_completeName post (mC, sS, nI (t + 1), nI h, sC, cC, kC, en, pK, pD, pS, pP, pF, stk, tP, tS, tD, rK, rV, mK, mV, cP, cS) (nI p) (nI s) := by
  have h1 : p < 2 ^ 31 := by omega
  have h2 : s * 4 + w < 2 ^ 31 := by omega
  have hv : vp_in (nI p) 24 := vp_in_nI (by omega) (by decide)
  have hv2 : vp_in (nI (s * 4 + w)) 5860 := vp_in_nI (by omega) (by decide)
  simp only [wpX_completeName, forall_eq, nI_clamp h1, e1, cc_x4, nI_clamp h2, hv, hv2, true_and]
  exact br_f hk (xx_endTask hh hp)
theorem xx_completeName0 {p s w : Nat} (hp1 : p < 24) (hs : s < 1465) (hw : w < 4) (e1 : pD p = nI w) (hk : mK (s * 4 + w) = -1)
    (hp : post (mC, sS, tC, rC, sC, cC, kC, 2, pK, pD, pS, pP, pF, stk, tP, tS, tD, rK, rV, mK, mV, cP, cS)) : wpX_completeName post (mC, sS, tC, rC, sC, cC, kC, en, pK, pD, pS, pP, pF, stk, tP, tS, tD, rK, rV, mK, mV, cP, cS) (nI p) (nI s) := by
  have h1 : p < 2 ^ 31 := by omega
  have h2 : s * 4 + w < 2 ^ 31 := by omega
  have hv : vp_in (nI p) 24 := vp_in_nI (by omega) (by decide)
  have hv2 : vp_in (nI (s * 4 + w)) 5860 := vp_in_nI (by omega) (by decide)
  simp only [wpX_completeName, forall_eq, nI_clamp h1, e1, cc_x4, nI_clamp h2, hv, hv2, true_and]
  exact br_t hk hp
theorem xx_completeFunction {c t h : Nat} {a b : Int32} (hc : c < 1464) (hh : h < 1464)
    (hp : post (mC, sS, nI t, nI (h + 1), sC, nI (c + 1), kC, en, pK, pD, pS, pP, pF, stk, tP, tS, tD, upd rK h 1, upd rV h (nI c), mK, mV, upd cP c a, upd cS c b)) : wpX_completeFunction post (mC, sS, nI (t + 1), nI h, sC, nI c, kC, en, pK, pD, pS, pP, pF, stk, tP, tS, tD, rK, rV, mK, mV, cP, cS) a b := by
  have h1 : c < 2 ^ 31 := by omega
  have hv : vp_in (nI c) 1464 := vp_in_nI hc (by decide)
  simp only [wpX_completeFunction, forall_eq, nI_clamp h1, nI_1, hv, true_and]
  exact xx_endTask hh hp
theorem xx_completeChoose {p q h t : Nat} {b : Int32} {i : Nat} (hp1 : p < 24) (hh : h < 1464) (ht : t < 1464) (hk : rK h = 0) (hi : (¬ rV h = 0 ∧ i = 1) ∨ (rV h = 0 ∧ i = 2)) (e4 : pP (3 * p + i) = nI q)
    (hp : post (mC, sS, nI (t + 1), nI h, sC, cC, kC, en, pK, pD, pS, pP, pF, stk, upd tP t (nI q), upd tS t b, upd tD t 0, rK, rV, mK, mV, cP, cS)) : wpX_completeChoose post (mC, sS, nI (t + 1), nI (h + 1), sC, cC, kC, en, pK, pD, pS, pP, pF, stk, tP, tS, tD, rK, rV, mK, mV, cP, cS) (nI p) b := by
  have h1 : h < 2 ^ 31 := by omega
  have hv : vp_in (nI h) 1464 := vp_in_nI hh (by decide)
  have core : wX_completeChoose_45 post (nI p) b (nI i) mC sS (nI (t + 1)) (nI h) sC cC kC en pK pD pS pP pF stk tP tS tD rK rV mK mV cP cS := by
    have h2 : 3 * p + i < 2 ^ 31 := by omega
    have hv2 : vp_in (nI (3 * p + i)) 72 := vp_in_nI (by omega) (by decide)
    simp only [wX_completeChoose_45, cc_x3, nI_clamp h2, hv2, e4, true_and]
    exact xx_replaceTask ht hp
  simp only [wpX_completeChoose, forall_eq, nI_pred, nI_clamp h1, hv, true_and]
  refine br_t hk ?_
  rcases hi with ⟨a, rfl⟩ | ⟨a, rfl⟩
  · exact br_f a core
  · exact br_t a core
theorem xx_completeChoose0 {h : Nat} {a b : Int32} (hh : h < 1464) (hk : ¬ rK h = 0)
    (hp : post (mC, sS, tC, nI h, sC, cC, kC, 2, pK, pD, pS, pP, pF, stk, tP, tS, tD, rK, rV, mK, mV, cP, cS)) : wpX_completeChoose post (mC, sS, tC, nI (h + 1), sC, cC, kC, en, pK, pD, pS, pP, pF, stk, tP, tS, tD, rK, rV, mK, mV, cP, cS) a b := by
  have h1 : h < 2 ^ 31 := by omega
  have hv : vp_in (nI h) 1464 := vp_in_nI hh (by decide)
  simp only [wpX_completeChoose, forall_eq, nI_pred, nI_clamp h1, hv, true_and]
  exact br_f hk hp
theorem xx_openScope {o sc : Nat} (ho : o < 1465) (hs : sc < 1465) (hp : posr (nI sc) (mC, sS, tC, rC, nI (sc + 1), cC, kC, en, pK, pD, pS, pP, pF, stk, tP, tS, tD, rK, rV, cc_os mK sc o 4, cc_os mV sc o 4, cP, cS)) : wpX_openScope posr (mC, sS, tC, rC, nI sc, cC, kC, en, pK, pD, pS, pP, pF, stk, tP, tS, tD, rK, rV, mK, mV, cP, cS) (nI o) := by
  have key : ∀ k v : Nat, v + k = 4 → wX_openScope_17 posr (nI o) (nI sc) (k + 1) (nI v) mC sS tC rC (nI (sc + 1)) cC kC en pK pD pS pP pF stk tP tS tD rK rV (cc_os mK sc o v) (cc_os mV sc o v) cP cS := by
    intro k
    induction k with
    | zero =>
      intro v hv
      obtain rfl : v = 4 := by omega
      exact br_t (by decide) hp
    | succ k ih =>
      intro v hv
      have h1 : o * 4 + v < 2 ^ 31 := by omega
      have hv1 : vp_in (nI (o * 4 + v)) 5860 := vp_in_nI (by omega) (by decide)
      refine br_f (nI_ge (b := 4) (by omega) (by decide)) (nm_r (cc_x4 o v) ⟨hv1, hv1, ?_⟩)
      rw [nI_clamp h1]
      exact xx_setMeaning (by omega) (nm_r (nI_1 v) (ih (v + 1) (by omega)))
  simp only [wpX_openScope, forall_eq, nI_1]
  exact ⟨5, key 4 0 rfl⟩
theorem xx_calculate {o : Nat} {x y : Int32} (ho : o < 4) (hp : pos (cc_ar o x y)) : wpX_calculate pos (nI o) x y := by
  match o, ho with
  | 0, _ => exact br_f (by decide) (br_f (by decide) (br_t rfl hp))
  | 1, _ => exact br_f (by decide) (br_f (by decide) (br_f (by decide) (br_t rfl hp)))
  | 2, _ => exact br_f (by decide) (br_f (by decide) (br_f (by decide) (br_f (by decide) (br_t rfl hp))))
  | 3, _ =>
    refine br_f (by decide) (br_f (by decide) (br_f (by decide) (br_f (by decide) (br_f (by decide) (br_t rfl ?_)))))
    have e : cc_ar 3 x y = if x < y then 1 else 0 := rfl
    rw [e] at hp
    refine br_c (fun z => ?_) (fun z => ?_)
    · rw [if_neg (Int32.not_lt.mpr z)] at hp; exact hp
    · rw [if_pos (Int32.not_le.mp z)] at hp; exact hp
theorem cc_x31 (s : Nat) : nI s * 3 + 1 = nI (3 * s + 1) := cc_x3 s 1
theorem xx_completeBind {t p s h q w sc : Nat} {kk : Int32} (ht : t < 1464) (hp1 : p < 24) (hh : h < 1464) (hs : s < 1465) (hsc : sc < 1465) (hw : w < 4) (k3 : pD p = nI w) (hk : rK h = kk) (e4 : pP (3 * p + 1) = nI q)
    (hp : post (mC, sS, nI (t + 1), nI h, nI (sc + 1), cC, kC, en, pK, pD, pS, pP, pF, stk, upd tP t (nI q), upd tS t (nI sc), upd tD t 0, rK, rV, upd (cc_os mK sc s 4) (sc * 4 + w) kk, upd (cc_os mV sc s 4) (sc * 4 + w) (rV h), cP, cS)) : wpX_completeBind post (mC, sS, nI (t + 1), nI (h + 1), nI sc, cC, kC, en, pK, pD, pS, pP, pF, stk, tP, tS, tD, rK, rV, mK, mV, cP, cS) (nI p) (nI s) := by
  have h1 : h < 2 ^ 31 := by omega
  have h2 : p < 2 ^ 31 := by omega
  have h3 : 3 * p + 1 < 2 ^ 31 := by omega
  have hv1 : vp_in (nI h) 1464 := vp_in_nI hh (by decide)
  have hv2 : vp_in (nI p) 24 := vp_in_nI hp1 (by decide)
  have hv3 : vp_in (nI (3 * p + 1)) 72 := vp_in_nI (by omega) (by decide)
  simp only [wpX_completeBind, forall_eq, nI_pred]
  refine xx_openScope hs hsc ?_
  simp only [nI_clamp h1, nI_clamp h2, hv1, hv2, k3, hk, true_and]
  refine xx_setMeaning (by omega) ?_
  simp only [cc_x31, nI_clamp h3, hv3, e4, true_and]
  exact xx_replaceTask ht hp
theorem xx_completeApply0 {h : Nat} (hh : h + 1 < 1464) (hk : rK h = 0) (hp : post (mC, sS, tC, nI h, sC, cC, kC, 2, pK, pD, pS, pP, pF, stk, tP, tS, tD, rK, rV, mK, mV, cP, cS)) : wpX_completeApply post (mC, sS, tC, nI (h + 2), sC, cC, kC, en, pK, pD, pS, pP, pF, stk, tP, tS, tD, rK, rV, mK, mV, cP, cS) := by
  have h1 : h < 2 ^ 31 := by omega
  have hv1 : vp_in (nI h) 1464 := vp_in_nI (by omega) (by decide)
  simp only [wpX_completeApply, forall_eq, cc_p2, nI_clamp h1, hv1, true_and]
  exact br_f (by rw [hk]; decide) hp
theorem xx_completeApply1 {h ca : Nat} (hh : h + 1 < 1464) (hca : ca = 60) (hk : rK h = 1) (hp : post (mC, sS, tC, nI h, sC, cC, nI ca, 3, pK, pD, pS, pP, pF, stk, tP, tS, tD, rK, rV, mK, mV, cP, cS)) : wpX_completeApply post (mC, sS, tC, nI (h + 2), sC, cC, nI ca, en, pK, pD, pS, pP, pF, stk, tP, tS, tD, rK, rV, mK, mV, cP, cS) := by
  have h1 : h < 2 ^ 31 := by omega
  have hv1 : vp_in (nI h) 1464 := vp_in_nI (by omega) (by decide)
  simp only [wpX_completeApply, forall_eq, cc_p2, nI_clamp h1, hv1, true_and]
  refine br_t hk (br_f ?_ hp)
  rw [hca]; decide
theorem xx_completeApply2 {t h ca j p1 s1 w f q sc : Nat} {kk : Int32} (ht : t < 1464) (hh : h + 1 < 1464) (hca : ca < 60) (hj : j < 1464) (hp2 : p1 < 24) (hs : s1 < 1465) (hsc : sc < 1465) (hw : w < 4) (hf : f < 4) (hk : rK h = 1) (hv : rV h = nI j)
    (c4 : cP j = nI p1) (c5 : cS j = nI s1) (f1 : pD p1 = nI w) (f2 : pS p1 = nI f) (f4 : pP (3 * p1) = nI q) (hk2 : rK (h + 1) = kk)
    (hp : post (mC, sS, nI (t + 1), nI h, nI (sc + 1), cC, nI (ca + 1), en, pK, pD, pS, pP, pF, stk, upd tP t (nI q), upd tS t (nI sc), upd tD t 0, rK, rV, upd (upd (cc_os mK sc s1 4) (sc * 4 + f) (nI 1)) (sc * 4 + w) kk, upd (upd (cc_os mV sc s1 4) (sc * 4 + f) (nI j)) (sc * 4 + w) (rV (h + 1)), cP, cS)) :
    wpX_completeApply post (mC, sS, nI (t + 1), nI (h + 2), nI sc, cC, nI ca, en, pK, pD, pS, pP, pF, stk, tP, tS, tD, rK, rV, mK, mV, cP, cS) := by
  have h1 : h < 2 ^ 31 := by omega
  have h2 : h + 1 < 2 ^ 31 := by omega
  have h3 : j < 2 ^ 31 := by omega
  have h4 : p1 < 2 ^ 31 := by omega
  have h5 : 3 * p1 < 2 ^ 31 := by omega
  have hv1 : vp_in (nI h) 1464 := vp_in_nI (by omega) (by decide)
  have hv2 : vp_in (nI (h + 1)) 1464 := vp_in_nI (by omega) (by decide)
  have hv3 : vp_in (nI j) 1464 := vp_in_nI hj (by decide)
  have hv4 : vp_in (nI p1) 24 := vp_in_nI hp2 (by decide)
  have hv5 : vp_in (nI (3 * p1)) 72 := vp_in_nI (by omega) (by decide)
  simp only [wpX_completeApply, forall_eq, cc_p2, nI_1, nI_clamp h1, hv1, hv, hv3, nI_clamp h3, c4, c5, true_and]
  refine br_t hk (br_t (nI_lt (b := 60) hca (by decide)) (xx_openScope hs hsc ?_))
  simp only [nI_clamp h4, hv4, f2, true_and]
  refine xx_setMeaning (by omega) ?_
  simp only [nI_1, nI_clamp h4, nI_clamp h2, hv4, hv2, f1, hk2, true_and]
  refine xx_setMeaning (by omega) ?_
  simp only [cc_x30, nI_clamp h5, hv5, f4, true_and]
  exact xx_replaceTask ht hp
theorem xx_completeArithmetic {t h o : Nat} (hh : h + 1 < 1464) (ho : o < 4) (hk : rK h = 0) (hk2 : rK (h + 1) = 0)
    (hp : post (mC, sS, nI t, nI (h + 1), sC, cC, kC, en, pK, pD, pS, pP, pF, stk, tP, tS, tD, upd rK h 0, upd rV h (cc_ar o (rV h) (rV (h + 1))), mK, mV, cP, cS)) : wpX_completeArithmetic post (mC, sS, nI (t + 1), nI (h + 2), sC, cC, kC, en, pK, pD, pS, pP, pF, stk, tP, tS, tD, rK, rV, mK, mV, cP, cS) (nI o) := by
  have h1 : h < 2 ^ 31 := by omega
  have h2 : h + 1 < 2 ^ 31 := by omega
  have hv1 : vp_in (nI h) 1464 := vp_in_nI (by omega) (by decide)
  have hv2 : vp_in (nI (h + 1)) 1464 := vp_in_nI (by omega) (by decide)
  simp only [wpX_completeArithmetic, forall_eq, cc_p2, nI_1, nI_clamp h1, nI_clamp h2, hv1, hv2, true_and]
  exact br_t hk (br_t hk2 (xx_calculate ho (xx_endTask (by omega) hp)))
theorem xx_completeArithmetic0 {h : Nat} {o : Int32} (hh : h + 1 < 1464) (hk : ¬ (rK h = 0 ∧ rK (h + 1) = 0))
    (hp : post (mC, sS, tC, nI h, sC, cC, kC, 2, pK, pD, pS, pP, pF, stk, tP, tS, tD, rK, rV, mK, mV, cP, cS)) : wpX_completeArithmetic post (mC, sS, tC, nI (h + 2), sC, cC, kC, en, pK, pD, pS, pP, pF, stk, tP, tS, tD, rK, rV, mK, mV, cP, cS) o := by
  have h1 : h < 2 ^ 31 := by omega
  have h2 : h + 1 < 2 ^ 31 := by omega
  have hv1 : vp_in (nI h) 1464 := vp_in_nI (by omega) (by decide)
  have hv2 : vp_in (nI (h + 1)) 1464 := vp_in_nI (by omega) (by decide)
  simp only [wpX_completeArithmetic, forall_eq, cc_p2, nI_1, nI_clamp h1, nI_clamp h2, hv1, hv2, true_and]
  by_cases hk1 : rK h = 0
  · exact br_t hk1 (br_f (fun z => hk ⟨hk1, z⟩) hp)
  · exact br_f hk1 hp
theorem xx_needs0 {t p dd nn : Nat} (ht : t < 1464) (hp1 : p < 24) (hd : dd < 3) (hn : nn < 3) (e1 : tP t = nI p) (e3 : tD t = nI dd) (hr : ¬ dd < nn)
    (hk : ∀ P : Int32 → Prop, P (nI nn) → wpX_partsWorkedOutFirst P (pK p)) (hp : pos 0) : wpX_topTaskNeedsPart pos (mC, sS, nI (t + 1), rC, sC, cC, kC, en, pK, pD, pS, pP, pF, stk, tP, tS, tD, rK, rV, mK, mV, cP, cS) := xx_needs ht hp1 hd hn e1 e3 (Or.inr ⟨hr, rfl⟩) hk hp
theorem xx_needs1 {t p dd nn : Nat} (ht : t < 1464) (hp1 : p < 24) (hd : dd < 3) (hn : nn < 3) (e1 : tP t = nI p) (e3 : tD t = nI dd) (hr : dd < nn)
    (hk : ∀ P : Int32 → Prop, P (nI nn) → wpX_partsWorkedOutFirst P (pK p)) (hp : pos 1) : wpX_topTaskNeedsPart pos (mC, sS, nI (t + 1), rC, sC, cC, kC, en, pK, pD, pS, pP, pF, stk, tP, tS, tD, rK, rV, mK, mV, cP, cS) := xx_needs ht hp1 hd hn e1 e3 (Or.inl ⟨hr, rfl⟩) hk hp
theorem xc_number {p s t h : Nat} (ht : t < 1464) (hp1 : p < 24) (hh : h < 1464) (e1 : tP t = nI p) (e2 : tS t = nI s) (k : pK p = 5)
    (hp : post (mC, sS, nI t, nI (h + 1), sC, cC, kC, en, pK, pD, pS, pP, pF, stk, tP, tS, tD, upd rK h 0, upd rV h (pD p), mK, mV, cP, cS)) : wpX_completeTopTask post (mC, sS, nI (t + 1), nI h, sC, cC, kC, en, pK, pD, pS, pP, pF, stk, tP, tS, tD, rK, rV, mK, mV, cP, cS) := by
  have h1 : t < 2 ^ 31 := by omega
  have h2 : p < 2 ^ 31 := by omega
  have hv1 : vp_in (nI t) 1464 := vp_in_nI ht (by decide)
  have hv2 : vp_in (nI p) 24 := vp_in_nI hp1 (by decide)
  simp only [wpX_completeTopTask, forall_eq, nI_pred, nI_clamp h1, nI_clamp h2, e1, e2, hv1, hv2, true_and]
  rw [k]
  exact br_f (by decide) (br_f (by decide) (br_f (by decide) (br_t rfl (xx_endTask hh hp))))
theorem xc_name0 {p s t w : Nat} (ht : t < 1464) (hp1 : p < 24) (hs : s < 1465) (hw : w < 4) (e1 : tP t = nI p) (e2 : tS t = nI s) (k : pK p = 6) (k3 : pD p = nI w) (hk : mK (s * 4 + w) = -1)
    (hp : post (mC, sS, nI (t + 1), rC, sC, cC, kC, 2, pK, pD, pS, pP, pF, stk, tP, tS, tD, rK, rV, mK, mV, cP, cS)) : wpX_completeTopTask post (mC, sS, nI (t + 1), rC, sC, cC, kC, en, pK, pD, pS, pP, pF, stk, tP, tS, tD, rK, rV, mK, mV, cP, cS) := by
  have h1 : t < 2 ^ 31 := by omega
  have h2 : p < 2 ^ 31 := by omega
  have hv1 : vp_in (nI t) 1464 := vp_in_nI ht (by decide)
  have hv2 : vp_in (nI p) 24 := vp_in_nI hp1 (by decide)
  simp only [wpX_completeTopTask, forall_eq, nI_pred, nI_clamp h1, nI_clamp h2, e1, e2, hv1, hv2, true_and]
  rw [k]
  exact br_f (by decide) (br_f (by decide) (br_f (by decide) (br_f (by decide) (br_t rfl (xx_completeName0 hp1 hs hw k3 hk hp)))))
theorem xc_name1 {p s t w h : Nat} (ht : t < 1464) (hp1 : p < 24) (hs : s < 1465) (hw : w < 4) (hh : h < 1464) (e1 : tP t = nI p) (e2 : tS t = nI s) (k : pK p = 6) (k3 : pD p = nI w) (hk : ¬ mK (s * 4 + w) = -1)
    (hp : post (mC, sS, nI t, nI (h + 1), sC, cC, kC, en, pK, pD, pS, pP, pF, stk, tP, tS, tD, upd rK h (mK (s * 4 + w)), upd rV h (mV (s * 4 + w)), mK, mV, cP, cS)) : wpX_completeTopTask post (mC, sS, nI (t + 1), nI h, sC, cC, kC, en, pK, pD, pS, pP, pF, stk, tP, tS, tD, rK, rV, mK, mV, cP, cS) := by
  have h1 : t < 2 ^ 31 := by omega
  have h2 : p < 2 ^ 31 := by omega
  have hv1 : vp_in (nI t) 1464 := vp_in_nI ht (by decide)
  have hv2 : vp_in (nI p) 24 := vp_in_nI hp1 (by decide)
  simp only [wpX_completeTopTask, forall_eq, nI_pred, nI_clamp h1, nI_clamp h2, e1, e2, hv1, hv2, true_and]
  rw [k]
  exact br_f (by decide) (br_f (by decide) (br_f (by decide) (br_f (by decide) (br_t rfl (xx_completeName1 hp1 hs hw hh k3 hk hp)))))
theorem xc_function {p s t h c : Nat} (ht : t < 1464) (hp1 : p < 24) (hh : h < 1464) (hc : c < 1464) (e1 : tP t = nI p) (e2 : tS t = nI s) (k : pK p = 9)
    (hp : post (mC, sS, nI t, nI (h + 1), sC, nI (c + 1), kC, en, pK, pD, pS, pP, pF, stk, tP, tS, tD, upd rK h 1, upd rV h (nI c), mK, mV, upd cP c (nI p), upd cS c (nI s))) : wpX_completeTopTask post (mC, sS, nI (t + 1), nI h, sC, nI c, kC, en, pK, pD, pS, pP, pF, stk, tP, tS, tD, rK, rV, mK, mV, cP, cS) := by
  have h1 : t < 2 ^ 31 := by omega
  have h2 : p < 2 ^ 31 := by omega
  have hv1 : vp_in (nI t) 1464 := vp_in_nI ht (by decide)
  have hv2 : vp_in (nI p) 24 := vp_in_nI hp1 (by decide)
  simp only [wpX_completeTopTask, forall_eq, nI_pred, nI_clamp h1, nI_clamp h2, e1, e2, hv1, hv2, true_and]
  rw [k]
  exact br_f (by decide) (br_f (by decide) (br_f (by decide) (br_f (by decide) (br_f (by decide) (br_f (by decide) (br_f (by decide) (br_t rfl (xx_completeFunction hc hh hp))))))))
theorem xc_choose {p s t h q i : Nat} (ht : t < 1464) (hp1 : p < 24) (hh : h < 1464) (e1 : tP t = nI p) (e2 : tS t = nI s) (k : pK p = 7) (hk : rK h = 0) (hi : (¬ rV h = 0 ∧ i = 1) ∨ (rV h = 0 ∧ i = 2)) (e4 : pP (3 * p + i) = nI q)
    (hp : post (mC, sS, nI (t + 1), nI h, sC, cC, kC, en, pK, pD, pS, pP, pF, stk, upd tP t (nI q), upd tS t (nI s), upd tD t 0, rK, rV, mK, mV, cP, cS)) : wpX_completeTopTask post (mC, sS, nI (t + 1), nI (h + 1), sC, cC, kC, en, pK, pD, pS, pP, pF, stk, tP, tS, tD, rK, rV, mK, mV, cP, cS) := by
  have h1 : t < 2 ^ 31 := by omega
  have h2 : p < 2 ^ 31 := by omega
  have hv1 : vp_in (nI t) 1464 := vp_in_nI ht (by decide)
  have hv2 : vp_in (nI p) 24 := vp_in_nI hp1 (by decide)
  simp only [wpX_completeTopTask, forall_eq, nI_pred, nI_clamp h1, nI_clamp h2, e1, e2, hv1, hv2, true_and]
  rw [k]
  exact br_f (by decide) (br_f (by decide) (br_f (by decide) (br_f (by decide) (br_f (by decide) (br_t rfl (xx_completeChoose hp1 hh ht hk hi e4 hp))))))
theorem xc_choose0 {p s t h : Nat} (ht : t < 1464) (hp1 : p < 24) (hh : h < 1464) (e1 : tP t = nI p) (e2 : tS t = nI s) (k : pK p = 7) (hk : ¬ rK h = 0)
    (hp : post (mC, sS, nI (t + 1), nI h, sC, cC, kC, 2, pK, pD, pS, pP, pF, stk, tP, tS, tD, rK, rV, mK, mV, cP, cS)) : wpX_completeTopTask post (mC, sS, nI (t + 1), nI (h + 1), sC, cC, kC, en, pK, pD, pS, pP, pF, stk, tP, tS, tD, rK, rV, mK, mV, cP, cS) := by
  have h1 : t < 2 ^ 31 := by omega
  have h2 : p < 2 ^ 31 := by omega
  have hv1 : vp_in (nI t) 1464 := vp_in_nI ht (by decide)
  have hv2 : vp_in (nI p) 24 := vp_in_nI hp1 (by decide)
  simp only [wpX_completeTopTask, forall_eq, nI_pred, nI_clamp h1, nI_clamp h2, e1, e2, hv1, hv2, true_and]
  rw [k]
  exact br_f (by decide) (br_f (by decide) (br_f (by decide) (br_f (by decide) (br_f (by decide) (br_t rfl (xx_completeChoose0 hh hk hp))))))
theorem xc_bind {p s t h q w sc : Nat} {kk : Int32} (ht : t < 1464) (hp1 : p < 24) (hh : h < 1464) (hs : s < 1465) (hsc : sc < 1465) (hw : w < 4) (e1 : tP t = nI p) (e2 : tS t = nI s) (k : pK p = 8) (k3 : pD p = nI w) (hk : rK h = kk) (e4 : pP (3 * p + 1) = nI q)
    (hp : post (mC, sS, nI (t + 1), nI h, nI (sc + 1), cC, kC, en, pK, pD, pS, pP, pF, stk, upd tP t (nI q), upd tS t (nI sc), upd tD t 0, rK, rV, upd (cc_os mK sc s 4) (sc * 4 + w) kk, upd (cc_os mV sc s 4) (sc * 4 + w) (rV h), cP, cS)) : wpX_completeTopTask post (mC, sS, nI (t + 1), nI (h + 1), nI sc, cC, kC, en, pK, pD, pS, pP, pF, stk, tP, tS, tD, rK, rV, mK, mV, cP, cS) := by
  have h1 : t < 2 ^ 31 := by omega
  have h2 : p < 2 ^ 31 := by omega
  have hv1 : vp_in (nI t) 1464 := vp_in_nI ht (by decide)
  have hv2 : vp_in (nI p) 24 := vp_in_nI hp1 (by decide)
  simp only [wpX_completeTopTask, forall_eq, nI_pred, nI_clamp h1, nI_clamp h2, e1, e2, hv1, hv2, true_and]
  rw [k]
  exact br_f (by decide) (br_f (by decide) (br_f (by decide) (br_f (by decide) (br_f (by decide) (br_f (by decide) (br_t rfl (xx_completeBind ht hp1 hh hs hsc hw k3 hk e4 hp)))))))
theorem xc_apply0 {p s t h : Nat} (ht : t < 1464) (hp1 : p < 24) (hh : h + 1 < 1464) (e1 : tP t = nI p) (e2 : tS t = nI s) (k : pK p = 4) (hk : rK h = 0)
    (hp : post (mC, sS, nI (t + 1), nI h, sC, cC, kC, 2, pK, pD, pS, pP, pF, stk, tP, tS, tD, rK, rV, mK, mV, cP, cS)) : wpX_completeTopTask post (mC, sS, nI (t + 1), nI (h + 2), sC, cC, kC, en, pK, pD, pS, pP, pF, stk, tP, tS, tD, rK, rV, mK, mV, cP, cS) := by
  have h1 : t < 2 ^ 31 := by omega
  have h2 : p < 2 ^ 31 := by omega
  have hv1 : vp_in (nI t) 1464 := vp_in_nI ht (by decide)
  have hv2 : vp_in (nI p) 24 := vp_in_nI hp1 (by decide)
  simp only [wpX_completeTopTask, forall_eq, nI_pred, nI_clamp h1, nI_clamp h2, e1, e2, hv1, hv2, true_and]
  rw [k]
  exact br_f (by decide) (br_f (by decide) (br_t rfl (xx_completeApply0 hh hk hp)))
theorem xc_apply1 {p s t h ca : Nat} (ht : t < 1464) (hp1 : p < 24) (hh : h + 1 < 1464) (hca : ca = 60) (e1 : tP t = nI p) (e2 : tS t = nI s) (k : pK p = 4) (hk : rK h = 1)
    (hp : post (mC, sS, nI (t + 1), nI h, sC, cC, nI ca, 3, pK, pD, pS, pP, pF, stk, tP, tS, tD, rK, rV, mK, mV, cP, cS)) : wpX_completeTopTask post (mC, sS, nI (t + 1), nI (h + 2), sC, cC, nI ca, en, pK, pD, pS, pP, pF, stk, tP, tS, tD, rK, rV, mK, mV, cP, cS) := by
  have h1 : t < 2 ^ 31 := by omega
  have h2 : p < 2 ^ 31 := by omega
  have hv1 : vp_in (nI t) 1464 := vp_in_nI ht (by decide)
  have hv2 : vp_in (nI p) 24 := vp_in_nI hp1 (by decide)
  simp only [wpX_completeTopTask, forall_eq, nI_pred, nI_clamp h1, nI_clamp h2, e1, e2, hv1, hv2, true_and]
  rw [k]
  exact br_f (by decide) (br_f (by decide) (br_t rfl (xx_completeApply1 hh hca hk hp)))
theorem xc_apply2 {p s t h ca j p1 s1 w f q sc : Nat} {kk : Int32} (ht : t < 1464) (hp1 : p < 24) (hh : h + 1 < 1464) (hca : ca < 60) (hj : j < 1464) (hp2 : p1 < 24) (hs : s1 < 1465) (hsc : sc < 1465) (hw : w < 4) (hf : f < 4) (e1 : tP t = nI p) (e2 : tS t = nI s) (k : pK p = 4) (hk : rK h = 1) (hv : rV h = nI j)
    (c4 : cP j = nI p1) (c5 : cS j = nI s1) (f1 : pD p1 = nI w) (f2 : pS p1 = nI f) (f4 : pP (3 * p1) = nI q) (hk2 : rK (h + 1) = kk)
    (hp : post (mC, sS, nI (t + 1), nI h, nI (sc + 1), cC, nI (ca + 1), en, pK, pD, pS, pP, pF, stk, upd tP t (nI q), upd tS t (nI sc), upd tD t 0, rK, rV, upd (upd (cc_os mK sc s1 4) (sc * 4 + f) (nI 1)) (sc * 4 + w) kk, upd (upd (cc_os mV sc s1 4) (sc * 4 + f) (nI j)) (sc * 4 + w) (rV (h + 1)), cP, cS)) :
    wpX_completeTopTask post (mC, sS, nI (t + 1), nI (h + 2), nI sc, cC, nI ca, en, pK, pD, pS, pP, pF, stk, tP, tS, tD, rK, rV, mK, mV, cP, cS) := by
  have h1 : t < 2 ^ 31 := by omega
  have h2 : p < 2 ^ 31 := by omega
  have hv1 : vp_in (nI t) 1464 := vp_in_nI ht (by decide)
  have hv2 : vp_in (nI p) 24 := vp_in_nI hp1 (by decide)
  simp only [wpX_completeTopTask, forall_eq, nI_pred, nI_clamp h1, nI_clamp h2, e1, e2, hv1, hv2, true_and]
  rw [k]
  exact br_f (by decide) (br_f (by decide) (br_t rfl (xx_completeApply2 ht hh hca hj hp2 hs hsc hw hf hk hv c4 c5 f1 f2 f4 hk2 hp)))
theorem xc_arith {p s t h o : Nat} (ht : t < 1464) (hp1 : p < 24) (hh : h + 1 < 1464) (ho : o < 4) (e1 : tP t = nI p) (e2 : tS t = nI s) (k : pK p = nI o) (hk : rK h = 0) (hk2 : rK (h + 1) = 0)
    (hp : post (mC, sS, nI t, nI (h + 1), sC, cC, kC, en, pK, pD, pS, pP, pF, stk, tP, tS, tD, upd rK h 0, upd rV h (cc_ar o (rV h) (rV (h + 1))), mK, mV, cP, cS)) : wpX_completeTopTask post (mC, sS, nI (t + 1), nI (h + 2), sC, cC, kC, en, pK, pD, pS, pP, pF, stk, tP, tS, tD, rK, rV, mK, mV, cP, cS) := by
  have h1 : t < 2 ^ 31 := by omega
  have h2 : p < 2 ^ 31 := by omega
  have hv1 : vp_in (nI t) 1464 := vp_in_nI ht (by decide)
  have hv2 : vp_in (nI p) 24 := vp_in_nI hp1 (by decide)
  simp only [wpX_completeTopTask, forall_eq, nI_pred, nI_clamp h1, nI_clamp h2, e1, e2, hv1, hv2, true_and]
  rw [k]
  exact br_t (nI_lt (b := 4) ho (by decide)) (xx_completeArithmetic hh ho hk hk2 hp)
theorem xc_arith0 {p s t h o : Nat} (ht : t < 1464) (hp1 : p < 24) (hh : h + 1 < 1464) (ho : o < 4) (e1 : tP t = nI p) (e2 : tS t = nI s) (k : pK p = nI o) (hk : ¬ (rK h = 0 ∧ rK (h + 1) = 0))
    (hp : post (mC, sS, nI (t + 1), nI h, sC, cC, kC, 2, pK, pD, pS, pP, pF, stk, tP, tS, tD, rK, rV, mK, mV, cP, cS)) : wpX_completeTopTask post (mC, sS, nI (t + 1), nI (h + 2), sC, cC, kC, en, pK, pD, pS, pP, pF, stk, tP, tS, tD, rK, rV, mK, mV, cP, cS) := by
  have h1 : t < 2 ^ 31 := by omega
  have h2 : p < 2 ^ 31 := by omega
  have hv1 : vp_in (nI t) 1464 := vp_in_nI ht (by decide)
  have hv2 : vp_in (nI p) 24 := vp_in_nI hp1 (by decide)
  simp only [wpX_completeTopTask, forall_eq, nI_pred, nI_clamp h1, nI_clamp h2, e1, e2, hv1, hv2, true_and]
  rw [k]
  exact br_t (nI_lt (b := 4) ho (by decide)) (xx_completeArithmetic0 hh hk hp)
end
end
section
/-! Y's own methods, each with a general post -/
theorem cc_pkw (l p d : Nat) : (32 * nI l + nI p) * 4 + nI d = nI ((32 * l + p) * 4 + d) := by
  rw [show (32 : Int32) * nI l = nI (32 * l) from pk_mul 32 l, nI_add, show nI (32 * l + p) * 4 = nI ((32 * l + p) * 4) from pk_mul _ 4, nI_add]
theorem cc_pkc (l p : Nat) : 32 * nI l + nI p = nI (32 * l + p) := by
  rw [show (32 : Int32) * nI l = nI (32 * l) from pk_mul 32 l, nI_add]
theorem cc_pkm (l n b : Nat) : 8 * nI l + 2 * nI n + nI b = nI (8 * l + 2 * n + b) := by
  rw [show (8 : Int32) * nI l = nI (8 * l) from pk_mul 8 l, show (2 : Int32) * nI n = nI (2 * n) from pk_mul 2 n, nI_add, nI_add]
theorem cc_y3 (s v : Nat) : 3 * nI s + nI v = nI (3 * s + v) := by
  rw [show (3 : Int32) * nI s = nI (3 * s) from pk_mul 3 s, nI_add]
theorem cc_y30 (s : Nat) : 3 * nI s = nI (3 * s) := pk_mul 3 s
theorem cc_y4 (f w : Nat) : 4 * nI f + nI w = nI (4 * f + w) := by
  rw [show (4 : Int32) * nI f = nI (4 * f) from pk_mul 4 f, nI_add]
section
variable {ym yd li yc wt he yl ye : Int32} {yk pP yn pF stk me mt cl wa va ic : Nat → Int32} {post : SY → Prop} {posr : Int32 → SY → Prop} {pos : Int32 → Prop}
theorem yy_wait {t p dd l : Nat} (ht : t < 680) (hp : post (ym, yd, li, yc, nI (t + 1), he, yl, ye, yk, pP, yn, pF, stk, me, mt, cl, upd wa t (nI ((32 * l + p) * 4 + dd)), va, ic)) : wpY_wait post (ym, yd, li, yc, nI t, he, yl, ye, yk, pP, yn, pF, stk, me, mt, cl, wa, va, ic) (nI p) (nI dd) (nI l) := by
  have h1 : t < 2 ^ 31 := by omega
  have hv : vp_in (nI t) 680 := vp_in_nI ht (by decide)
  simp only [wpY_wait, forall_eq, nI_1, nI_clamp h1, cc_pkw, hv, true_and]
  exact hp
theorem yy_hold {h : Nat} {k w : Int32} (hh : h < 680) (hk : k = 0 ∨ k = 1) (hp : post (ym, yd, li, yc, wt, nI (h + 1), yl, ye, yk, pP, yn, pF, stk, me, mt, cl, wa, upd va h w, upd ic h k)) : wpY_hold post (ym, yd, li, yc, wt, nI h, yl, ye, yk, pP, yn, pF, stk, me, mt, cl, wa, va, ic) k w := by
  have h1 : h < 2 ^ 31 := by omega
  have hv : vp_in (nI h) 680 := vp_in_nI hh (by decide)
  have hn : vp_nar .boolean k = k := by
    rcases hk with hk | hk <;> subst hk <;> rfl
  simp only [wpY_hold, forall_eq, nI_1, nI_clamp h1, hn, hv, true_and]
  exact hp
theorem yy_mean {e l n b : Nat} {w : Int32} (he1 : e < 800) (hb : b < 2) (hp : posr (nI (e + 1)) (ym, yd, nI (e + 1), yc, wt, he, yl, ye, yk, pP, yn, pF, stk, upd me e (nI (8 * l + 2 * n + b)), upd mt e w, cl, wa, va, ic)) : wpY_mean posr (ym, yd, nI e, yc, wt, he, yl, ye, yk, pP, yn, pF, stk, me, mt, cl, wa, va, ic) (nI l) (nI n) (nI b) w := by
  have h1 : e < 2 ^ 31 := by omega
  have hv : vp_in (nI e) 800 := vp_in_nI he1 (by decide)
  have core : wY_mean_25 posr w (nI b) (8 * nI l + 2 * nI n) (nI e) ym yd (nI e) yc wt he yl ye yk pP yn pF stk me mt cl wa va ic := by
    simp only [wY_mean_25, forall_eq, cc_pkm, nI_clamp h1, nI_1, hv, true_and]
    exact hp
  unfold wpY_mean
  dsimp only
  obtain rfl | rfl : b = 0 ∨ b = 1 := by omega
  · exact br_t nI_0 core
  · exact br_f (by decide) core
theorem cc_y31 (s : Nat) : 3 * nI s + 1 = nI (3 * s + 1) := cc_y3 s 1
theorem cc_ko4 : ∀ o, o < 4 → ¬ nI o = 4 := by decide +kernel
theorem yy_look {w e c : Nat} {ek ew : Nat → Nat → Int32} (hw : w < 4) (hE : cc_E e c me mt ek ew) (he8 : e < 800) {h : Nat} (hh : h < 680) : ∀ at' : Nat, at' ≤ e → ∀ n : Nat, at' < n → (ek at' w = -1 → post (ym, yd, li, yc, wt, nI h, yl, 2, yk, pP, yn, pF, stk, me, mt, cl, wa, va, ic)) → (¬ ek at' w = -1 → post (ym, yd, li, yc, wt, nI (h + 1), yl, ye, yk, pP, yn, pF, stk, me, mt, cl, wa, upd va h (ew at' w), upd ic h (ek at' w))) →
    wY_lookUp_2 post (nI w) ym yd li yc wt (nI h) yl ye yk pP yn pF stk me mt cl wa va ic n (nI at') := by
  intro at'
  induction at' using Nat.strongRecOn with
  | ind at' ih =>
    intro hat n hn H0 H1
    obtain ⟨n, rfl⟩ : ∃ k, n = k + 1 := ⟨n - 1, by omega⟩
    cases at' with
    | zero => exact br_t (by decide) (br_t nI_0 (H0 (hE.1 w hw)))
    | succ k =>
      obtain ⟨l, nn, b, q1, q2, q3, q4, q5⟩ := hE.2.1 k (by omega)
      obtain ⟨r1, r2⟩ := q5 w hw
      have hk : k < 2 ^ 31 := by omega
      have hv : vp_in (nI (k + 1) - 1) 800 := by rw [nI_pred]; exact vp_in_nI (by omega) (by decide)
      have em : me (nI (k + 1) - 1).toNatClampNeg = nI (8 * l + 2 * nn + b) := by rw [nI_pred, nI_clamp hk]; exact q4
      have et : mt (nI (k + 1) - 1).toNatClampNeg = mt k := by rw [nI_pred, nI_clamp hk]
      have e1 := cc_mn (l := l) (n := nn) (b := b) (by omega) q2 q3
      have e2 := cc_ml (l := l) (n := nn) (b := b) (by omega) q2 q3
      have e3 := cc_mb (l := l) (n := nn) (b := b) (by omega) q2 q3
      rw [← em] at e1 e2 e3
      have hnn : nI nn = nI w ↔ nn = w := nI_eq (by omega) (by omega)
      refine br_f (nI_nle (by omega) (by omega)) ⟨hv, by decide, by decide, br_c (fun z => ?_) (fun z => ?_)⟩
      · have hw2 : w = nn := (hnn.mp (e1.symm.trans z)).symm
        rw [if_pos hw2] at r1 r2
        have core : wY_lookUp_69 post (nI (k + 1)) (nI b) ym yd li yc wt (nI h) yl ye yk pP yn pF stk me mt cl wa va ic := by
          refine ⟨hv, ?_⟩
          rw [et]
          have nb : ¬ nI b = -1 := by
            obtain rfl | rfl : b = 0 ∨ b = 1 := by omega
            · decide
            · decide
          have nb2 : nI b = 0 ∨ nI b = 1 := by
            obtain rfl | rfl : b = 0 ∨ b = 1 := by omega
            · exact Or.inl rfl
            · exact Or.inr rfl
          have H2 := H1 (by rw [r1]; exact nb)
          rw [r1, r2] at H2
          exact yy_hold hh nb2 H2
        refine br_f (nI_ne0 (by omega) (by omega)) ⟨hv, by decide, ?_⟩
        obtain rfl | rfl : b = 0 ∨ b = 1 := by omega
        · exact br_f (fun z => absurd (e3.symm.trans z) (by decide)) core
        · exact br_t e3 core
      · have hw2 : ¬ w = nn := fun z2 => z (e1.trans (hnn.mpr z2.symm))
        rw [if_neg hw2] at r1 r2
        rw [r1] at H0 H1
        rw [r2] at H1
        exact ⟨hv, by decide, nm_r e2 (ih l (by omega) (by omega) n (by omega) H0 H1)⟩
theorem yy_lookUp0 {l w e c : Nat} {ek ew : Nat → Nat → Int32} {h : Nat} (hh : h < 680) (hw : w < 4) (hE : cc_E e c me mt ek ew) (hl : l ≤ e) (he8 : e < 800) (hk : ek l w = -1) (hp : post (ym, yd, li, yc, wt, nI h, yl, 2, yk, pP, yn, pF, stk, me, mt, cl, wa, va, ic)) : wpY_lookUp post (ym, yd, li, yc, wt, nI h, yl, ye, yk, pP, yn, pF, stk, me, mt, cl, wa, va, ic) (nI w) (nI l) := by
  exact ⟨l + 1, yy_look hw hE he8 hh l hl (l + 1) (Nat.lt_succ_self l) (fun _ => hp) (fun z => absurd hk z)⟩
theorem yy_lookUp1 {l w e c h : Nat} {ek ew : Nat → Nat → Int32} (hw : w < 4) (hE : cc_E e c me mt ek ew) (hl : l ≤ e) (he8 : e < 800) (hh : h < 680) (hk : ¬ ek l w = -1) (hp : post (ym, yd, li, yc, wt, nI (h + 1), yl, ye, yk, pP, yn, pF, stk, me, mt, cl, wa, upd va h (ew l w), upd ic h (ek l w))) : wpY_lookUp post (ym, yd, li, yc, wt, nI h, yl, ye, yk, pP, yn, pF, stk, me, mt, cl, wa, va, ic) (nI w) (nI l) := by
  exact ⟨l + 1, yy_look hw hE he8 hh l hl (l + 1) (Nat.lt_succ_self l) (fun z => absurd z hk) (fun _ => hp)⟩
theorem yy_operate {h o : Nat} {x y : Int32} (hh : h + 1 < 680) (ho : o < 4) (hi : ic h = 0) (hi2 : ic (h + 1) = 0) (hx : va h = x) (hy : va (h + 1) = y)
    (hp : post (ym, yd, li, yc, wt, nI (h + 1), yl, ye, yk, pP, yn, pF, stk, me, mt, cl, wa, upd va h (cc_ar o x y), upd ic h 0)) : wpY_operate post (ym, yd, li, yc, wt, nI (h + 2), yl, ye, yk, pP, yn, pF, stk, me, mt, cl, wa, va, ic) (nI o) := by
  have h1 : h < 2 ^ 31 := by omega
  have h2 : h + 1 < 2 ^ 31 := by omega
  have hv1 : vp_in (nI h) 680 := vp_in_nI (by omega) (by decide)
  have hv2 : vp_in (nI (h + 1)) 680 := vp_in_nI (by omega) (by decide)
  simp only [wpY_operate, forall_eq, cc_p2, nI_1, nI_clamp h1, nI_clamp h2, hv1, hv2, hx, hy, true_and]
  refine br_t hi (br_t hi2 ?_)
  match o, ho with
  | 0, _ => exact br_t rfl (yy_hold (by omega) (Or.inl rfl) hp)
  | 1, _ => exact br_f (by decide) (br_t rfl (yy_hold (by omega) (Or.inl rfl) hp))
  | 2, _ => exact br_f (by decide) (br_f (by decide) (br_t rfl (yy_hold (by omega) (Or.inl rfl) hp)))
  | 3, _ =>
    refine br_f (by decide) (br_f (by decide) (br_f (by decide) ?_))
    have e : cc_ar 3 x y = if x < y then 1 else 0 := rfl
    rw [e] at hp
    refine br_c (fun z => ?_) (fun z => ?_)
    · rw [if_neg (Int32.not_lt.mpr z)] at hp; exact yy_hold (by omega) (Or.inl rfl) hp
    · rw [if_pos (Int32.not_le.mp z)] at hp; exact yy_hold (by omega) (Or.inl rfl) hp
theorem yy_operate0 {h : Nat} {o : Int32} (hh : h + 1 < 680) (hi : ¬ (ic h = 0 ∧ ic (h + 1) = 0)) (hp : post (ym, yd, li, yc, wt, nI h, yl, 2, yk, pP, yn, pF, stk, me, mt, cl, wa, va, ic)) : wpY_operate post (ym, yd, li, yc, wt, nI (h + 2), yl, ye, yk, pP, yn, pF, stk, me, mt, cl, wa, va, ic) o := by
  have h1 : h < 2 ^ 31 := by omega
  have h2 : h + 1 < 2 ^ 31 := by omega
  have hv1 : vp_in (nI h) 680 := vp_in_nI (by omega) (by decide)
  have hv2 : vp_in (nI (h + 1)) 680 := vp_in_nI (by omega) (by decide)
  simp only [wpY_operate, forall_eq, cc_p2, nI_1, nI_clamp h1, nI_clamp h2, hv1, hv2, true_and]
  by_cases hk1 : ic h = 0
  · exact br_t hk1 (br_f (fun z => hi ⟨hk1, z⟩) hp)
  · exact br_f hk1 hp
theorem yy_call0 {h : Nat} (hh : h + 1 < 680) (hi : ic h = 0) (hp : post (ym, yd, li, yc, wt, nI h, yl, 2, yk, pP, yn, pF, stk, me, mt, cl, wa, va, ic)) : wpY_call post (ym, yd, li, yc, wt, nI (h + 2), yl, ye, yk, pP, yn, pF, stk, me, mt, cl, wa, va, ic) := by
  have h1 : h < 2 ^ 31 := by omega
  have hv1 : vp_in (nI h) 680 := vp_in_nI (by omega) (by decide)
  simp only [wpY_call, forall_eq, cc_p2, nI_clamp h1, hv1, true_and]
  exact br_t hi hp
theorem yy_call1 {h ca : Nat} (hh : h + 1 < 680) (hca : ca = 60) (hi : ic h = 1) (hp : post (ym, yd, li, yc, wt, nI h, nI ca, 3, yk, pP, yn, pF, stk, me, mt, cl, wa, va, ic)) : wpY_call post (ym, yd, li, yc, wt, nI (h + 2), nI ca, ye, yk, pP, yn, pF, stk, me, mt, cl, wa, va, ic) := by
  have h1 : h < 2 ^ 31 := by omega
  have hv1 : vp_in (nI h) 680 := vp_in_nI (by omega) (by decide)
  simp only [wpY_call, forall_eq, cc_p2, nI_clamp h1, hv1, true_and]
  refine br_f (by rw [hi]; decide) (br_t ?_ hp)
  rw [hca]; decide
theorem yy_call2 {h ca t e j p1 l1 f w b q : Nat} {x : Int32} (hh : h + 1 < 680) (ht : t < 680) (hca : ca < 60) (he8 : e + 1 < 800) (hj : j < 740) (hp2 : p1 < 24 ∧ l1 ≤ 800) (hw : w < 4) (hf : f < 4) (hb : b < 2) (hi : ic h = 1) (hv : va h = nI j) (hc : cl j = nI (32 * l1 + p1))
    (hn : yn p1 = nI (4 * f + w)) (kP : pP (3 * p1) = nI q) (hi2 : ic (h + 1) = nI b) (hx : va (h + 1) = x)
    (hp : post (ym, yd, nI (e + 2), yc, nI (t + 1), nI h, nI (ca + 1), ye, yk, pP, yn, pF, stk, upd (upd me e (nI (8 * l1 + 2 * f + 1))) (e + 1) (nI (8 * (e + 1) + 2 * w + b)), upd (upd mt e (nI j)) (e + 1) x, cl, upd wa t (nI ((32 * (e + 2) + q) * 4 + 0)), va, ic)) :
    wpY_call post (ym, yd, nI e, yc, nI t, nI (h + 2), nI ca, ye, yk, pP, yn, pF, stk, me, mt, cl, wa, va, ic) := by
  have h1 : h < 2 ^ 31 := by omega
  have h2 : h + 1 < 2 ^ 31 := by omega
  have h3 : j < 2 ^ 31 := by omega
  have h4 : p1 < 2 ^ 31 := by omega
  have h5 : 3 * p1 < 2 ^ 31 := by omega
  have hv1 : vp_in (nI h) 680 := vp_in_nI (by omega) (by decide)
  have hv2 : vp_in (nI (h + 1)) 680 := vp_in_nI (by omega) (by decide)
  have hv3 : vp_in (nI j) 740 := vp_in_nI hj (by decide)
  have hv4 : vp_in (nI p1) 24 := vp_in_nI hp2.1 (by decide)
  have hv5 : vp_in (nI (3 * p1)) 72 := vp_in_nI (by omega) (by decide)
  have e1 := cc_kp (l := l1) (p := p1) hp2.2 hp2.1
  have e2 := cc_kl (l := l1) (p := p1) hp2.2 hp2.1
  rw [e2] at e1
  have e3 := cc_nf hf hw
  have e4 := cc_nw hf hw
  have z4 : ¬ (4 : Int32) = 0 := by decide
  have z32 : ¬ (32 : Int32) = 0 := by decide
  simp only [wpY_call, forall_eq, cc_p2, nI_1, nI_clamp h1, hv1, hv, hv3, nI_clamp h3, hc, e1, e2, nI_clamp h4, hv4, hn, e3, z4, z32, not_false_eq_true, true_and]
  refine br_f (by rw [hi]; decide) (br_f (fun z => absurd ((nI_eq (b := 60) (by omega) (by omega)).mp z) (by omega)) (yy_mean (b := 1) (by omega) (by omega) ?_))
  simp only [nI_1, nI_clamp h4, nI_clamp h2, hv4, hv2, hn, e4, hi2, hx, z4, not_false_eq_true, true_and]
  refine yy_mean he8 hb ?_
  simp only [cc_y30, nI_clamp h5, hv5, kP, true_and]
  exact yy_wait (dd := 0) ht hp
theorem yb_number {p h l : Nat} {x : Int32} (hp1 : p < 24) (hh : h < 680) (k2 : yk p = 8) (k3 : yn p = x) (hp : post (ym, yd, li, yc, wt, nI (h + 1), yl, ye, yk, pP, yn, pF, stk, me, mt, cl, wa, upd va h x, upd ic h 0)) : wpY_begin post (ym, yd, li, yc, wt, nI h, yl, ye, yk, pP, yn, pF, stk, me, mt, cl, wa, va, ic) (nI p) (nI l) := by
  have h2 : p < 2 ^ 31 := by omega
  have hv2 : vp_in (nI p) 24 := vp_in_nI hp1 (by decide)
  simp only [wpY_begin, forall_eq, nI_clamp h2, hv2, k3, true_and]
  rw [k2]
  exact br_t rfl (yy_hold hh (Or.inl rfl) hp)
theorem yb_name0 {p l w e c h : Nat} {ek ew : Nat → Nat → Int32} (hp1 : p < 24) (hw : w < 4) (hE : cc_E e c me mt ek ew) (hl : l ≤ e) (he8 : e < 800) (hh : h < 680) (k2 : yk p = 9) (k4 : yn p = nI w) (hk : ek l w = -1) (hp : post (ym, yd, li, yc, wt, nI h, yl, 2, yk, pP, yn, pF, stk, me, mt, cl, wa, va, ic)) : wpY_begin post (ym, yd, li, yc, wt, nI h, yl, ye, yk, pP, yn, pF, stk, me, mt, cl, wa, va, ic) (nI p) (nI l) := by
  have h2 : p < 2 ^ 31 := by omega
  have hv2 : vp_in (nI p) 24 := vp_in_nI hp1 (by decide)
  simp only [wpY_begin, forall_eq, nI_clamp h2, hv2, k4, true_and]
  rw [k2]
  exact br_f (by decide) (br_t rfl (yy_lookUp0 hh hw hE hl he8 hk hp))
theorem yb_name1 {p l w e c h : Nat} {ek ew : Nat → Nat → Int32} (hp1 : p < 24) (hw : w < 4) (hE : cc_E e c me mt ek ew) (hl : l ≤ e) (he8 : e < 800) (hh : h < 680) (k2 : yk p = 9) (k4 : yn p = nI w) (hk : ¬ ek l w = -1) (hp : post (ym, yd, li, yc, wt, nI (h + 1), yl, ye, yk, pP, yn, pF, stk, me, mt, cl, wa, upd va h (ew l w), upd ic h (ek l w))) : wpY_begin post (ym, yd, li, yc, wt, nI h, yl, ye, yk, pP, yn, pF, stk, me, mt, cl, wa, va, ic) (nI p) (nI l) := by
  have h2 : p < 2 ^ 31 := by omega
  have hv2 : vp_in (nI p) 24 := vp_in_nI hp1 (by decide)
  simp only [wpY_begin, forall_eq, nI_clamp h2, hv2, k4, true_and]
  rw [k2]
  exact br_f (by decide) (br_t rfl (yy_lookUp1 hw hE hl he8 hh hk hp))
theorem yb_function {p l h c : Nat} (hp1 : p < 24) (hl : l ≤ 800) (hh : h < 680) (hc : c < 740) (k2 : yk p = 7) (hp : post (ym, yd, li, nI (c + 1), wt, nI (h + 1), yl, ye, yk, pP, yn, pF, stk, me, mt, upd cl c (nI (32 * l + p)), wa, upd va h (nI c), upd ic h 1)) : wpY_begin post (ym, yd, li, nI c, wt, nI h, yl, ye, yk, pP, yn, pF, stk, me, mt, cl, wa, va, ic) (nI p) (nI l) := by
  have h2 : p < 2 ^ 31 := by omega
  have hv2 : vp_in (nI p) 24 := vp_in_nI hp1 (by decide)
  have h3 : c < 2 ^ 31 := by omega
  have hv3 : vp_in (nI c) 740 := vp_in_nI hc (by decide)
  simp only [wpY_begin, forall_eq, nI_clamp h2, nI_clamp h3, cc_pkc, hv2, hv3, true_and]
  rw [k2]
  refine br_f (by decide) (br_f (by decide) (br_t rfl (yy_hold hh (Or.inr rfl) ?_)))
  simp only [nI_1]
  exact hp
theorem yb_node {p l q t : Nat} (hp1 : p < 24) (ht : t + 1 < 680) (k7 : ¬ yk p = 7) (k8 : ¬ yk p = 8) (k9 : ¬ yk p = 9) (kP : pP (3 * p) = nI q)
    (hp : post (ym, yd, li, yc, nI (t + 1 + 1), he, yl, ye, yk, pP, yn, pF, stk, me, mt, cl, upd (upd wa t (nI ((32 * l + p) * 4 + 1))) (t + 1) (nI ((32 * l + q) * 4 + 0)), va, ic)) : wpY_begin post (ym, yd, li, yc, nI t, he, yl, ye, yk, pP, yn, pF, stk, me, mt, cl, wa, va, ic) (nI p) (nI l) := by
  have h2 : p < 2 ^ 31 := by omega
  have hv2 : vp_in (nI p) 24 := vp_in_nI hp1 (by decide)
  have h3 : 3 * p < 2 ^ 31 := by omega
  have hv3 : vp_in (nI (3 * p)) 72 := vp_in_nI (by omega) (by decide)
  simp only [wpY_begin, forall_eq, nI_clamp h2, hv2, true_and]
  refine br_f k8 (br_f k9 (br_f k7 (yy_wait (dd := 1) (by omega) ?_)))
  simp only [cc_y30, nI_clamp h3, hv3, kP, true_and]
  exact yy_wait (dd := 0) ht hp
theorem yg_next {p l q t o : Nat} (hp1 : p < 24) (ht : t + 1 < 680) (ho : o < 5) (k2 : yk p = nI o) (kP : pP (3 * p + 1) = nI q)
    (hp : post (ym, yd, li, yc, nI (t + 1 + 1), he, yl, ye, yk, pP, yn, pF, stk, me, mt, cl, upd (upd wa t (nI ((32 * l + p) * 4 + 2))) (t + 1) (nI ((32 * l + q) * 4 + 0)), va, ic)) : wpY_goOn post (ym, yd, li, yc, nI t, he, yl, ye, yk, pP, yn, pF, stk, me, mt, cl, wa, va, ic) (nI p) (nI 1) (nI l) := by
  have h2 : p < 2 ^ 31 := by omega
  have hv2 : vp_in (nI p) 24 := vp_in_nI hp1 (by decide)
  have h3 : 3 * p + 1 < 2 ^ 31 := by omega
  have hv3 : vp_in (nI (3 * p + 1)) 72 := vp_in_nI (by omega) (by decide)
  obtain ⟨o5, o6, o7, o8, o9⟩ := cc_ko o ho
  have o5' : ¬ yk p = 5 := by rw [k2]; exact o5
  have o6' : ¬ yk p = 6 := by rw [k2]; exact o6
  simp only [wpY_goOn, forall_eq, nI_clamp h2, hv2, true_and]
  refine br_f o5' (br_f o6' (br_t rfl (yy_wait (dd := 2) (by omega) ?_)))
  simp only [cc_y31, nI_clamp h3, hv3, kP, true_and]
  exact yy_wait (dd := 0) ht hp
theorem yg_choose {p l q t h i : Nat} (hp1 : p < 24) (ht : t < 680) (hh : h < 680) (k2 : yk p = 5) (hi0 : ic h = 0) (hi : (¬ va h = 0 ∧ i = 1) ∨ (va h = 0 ∧ i = 2)) (kP : pP (3 * p + i) = nI q)
    (hp : post (ym, yd, li, yc, nI (t + 1), nI h, yl, ye, yk, pP, yn, pF, stk, me, mt, cl, upd wa t (nI ((32 * l + q) * 4 + 0)), va, ic)) : wpY_goOn post (ym, yd, li, yc, nI t, nI (h + 1), yl, ye, yk, pP, yn, pF, stk, me, mt, cl, wa, va, ic) (nI p) (nI 1) (nI l) := by
  have h2 : p < 2 ^ 31 := by omega
  have hv2 : vp_in (nI p) 24 := vp_in_nI hp1 (by decide)
  have h1 : h < 2 ^ 31 := by omega
  have hv1 : vp_in (nI h) 680 := vp_in_nI hh (by decide)
  have core : wY_goOn_69 post (nI l) (nI i) (3 * nI p) ym yd li yc (nI t) (nI h) yl ye yk pP yn pF stk me mt cl wa va ic := by
    have h3 : 3 * p + i < 2 ^ 31 := by omega
    have hv3 : vp_in (nI (3 * p + i)) 72 := vp_in_nI (by omega) (by decide)
    simp only [wY_goOn_69, cc_y3, nI_clamp h3, hv3, kP, true_and]
    exact yy_wait (dd := 0) ht hp
  simp only [wpY_goOn, forall_eq, nI_pred, nI_clamp h1, nI_clamp h2, hv1, hv2, true_and]
  refine br_t k2 (br_t hi0 ?_)
  rcases hi with ⟨a, rfl⟩ | ⟨a, rfl⟩
  · exact br_f a core
  · exact br_t a core
theorem yg_choose0 {p l h : Nat} (hp1 : p < 24) (hh : h < 680) (k2 : yk p = 5) (hi0 : ¬ ic h = 0) (hp : post (ym, yd, li, yc, wt, nI h, yl, 2, yk, pP, yn, pF, stk, me, mt, cl, wa, va, ic)) : wpY_goOn post (ym, yd, li, yc, wt, nI (h + 1), yl, ye, yk, pP, yn, pF, stk, me, mt, cl, wa, va, ic) (nI p) (nI 1) (nI l) := by
  have h2 : p < 2 ^ 31 := by omega
  have hv2 : vp_in (nI p) 24 := vp_in_nI hp1 (by decide)
  have h1 : h < 2 ^ 31 := by omega
  have hv1 : vp_in (nI h) 680 := vp_in_nI hh (by decide)
  simp only [wpY_goOn, forall_eq, nI_pred, nI_clamp h1, nI_clamp h2, hv1, hv2, true_and]
  exact br_t k2 (br_f hi0 hp)
theorem yg_bind {p l q t h e w b : Nat} {x : Int32} (hp1 : p < 24) (ht : t < 680) (hh : h < 680) (he8 : e < 800) (hb : b < 2) (k2 : yk p = 6) (k4 : yn p = nI w) (hi : ic h = nI b) (hx : va h = x) (kP : pP (3 * p + 1) = nI q)
    (hp : post (ym, yd, nI (e + 1), yc, nI (t + 1), nI h, yl, ye, yk, pP, yn, pF, stk, upd me e (nI (8 * l + 2 * w + b)), upd mt e x, cl, upd wa t (nI ((32 * (e + 1) + q) * 4 + 0)), va, ic)) : wpY_goOn post (ym, yd, nI e, yc, nI t, nI (h + 1), yl, ye, yk, pP, yn, pF, stk, me, mt, cl, wa, va, ic) (nI p) (nI 1) (nI l) := by
  have h2 : p < 2 ^ 31 := by omega
  have hv2 : vp_in (nI p) 24 := vp_in_nI hp1 (by decide)
  have h1 : h < 2 ^ 31 := by omega
  have hv1 : vp_in (nI h) 680 := vp_in_nI hh (by decide)
  have h3 : 3 * p + 1 < 2 ^ 31 := by omega
  have hv3 : vp_in (nI (3 * p + 1)) 72 := vp_in_nI (by omega) (by decide)
  simp only [wpY_goOn, forall_eq, nI_pred, nI_clamp h1, nI_clamp h2, hv1, hv2, k4, hi, hx, true_and]
  refine br_f (by rw [k2]; decide) (br_t k2 (yy_mean he8 hb ?_))
  simp only [cc_y31, nI_clamp h3, hv3, kP, true_and]
  exact yy_wait (dd := 0) ht hp
theorem yg_apply0 {p l h : Nat} (hp1 : p < 24) (hh : h + 1 < 680) (k2 : yk p = 4) (hi : ic h = 0) (hp : post (ym, yd, li, yc, wt, nI h, yl, 2, yk, pP, yn, pF, stk, me, mt, cl, wa, va, ic)) : wpY_goOn post (ym, yd, li, yc, wt, nI (h + 2), yl, ye, yk, pP, yn, pF, stk, me, mt, cl, wa, va, ic) (nI p) (nI 2) (nI l) := by
  have h2 : p < 2 ^ 31 := by omega
  have hv2 : vp_in (nI p) 24 := vp_in_nI hp1 (by decide)
  simp only [wpY_goOn, forall_eq, nI_clamp h2, hv2, true_and]
  rw [k2]
  exact br_f (by decide) (br_f (by decide) (br_f (by decide) (br_t rfl (yy_call0 hh hi hp))))
theorem yg_apply1 {p l h ca : Nat} (hp1 : p < 24) (hh : h + 1 < 680) (hca : ca = 60) (k2 : yk p = 4) (hi : ic h = 1) (hp : post (ym, yd, li, yc, wt, nI h, nI ca, 3, yk, pP, yn, pF, stk, me, mt, cl, wa, va, ic)) : wpY_goOn post (ym, yd, li, yc, wt, nI (h + 2), nI ca, ye, yk, pP, yn, pF, stk, me, mt, cl, wa, va, ic) (nI p) (nI 2) (nI l) := by
  have h2 : p < 2 ^ 31 := by omega
  have hv2 : vp_in (nI p) 24 := vp_in_nI hp1 (by decide)
  simp only [wpY_goOn, forall_eq, nI_clamp h2, hv2, true_and]
  rw [k2]
  exact br_f (by decide) (br_f (by decide) (br_f (by decide) (br_t rfl (yy_call1 hh hca hi hp))))
theorem yg_apply2 {p l h ca t e j p1 l1 f w b q : Nat} {x : Int32} (hp1 : p < 24) (hh : h + 1 < 680) (ht : t < 680) (hca : ca < 60) (he8 : e + 1 < 800) (hj : j < 740) (hp2 : p1 < 24 ∧ l1 ≤ 800) (hw : w < 4) (hf : f < 4) (hb : b < 2) (k2 : yk p = 4) (hi : ic h = 1) (hv : va h = nI j) (hc : cl j = nI (32 * l1 + p1))
    (hn : yn p1 = nI (4 * f + w)) (kP : pP (3 * p1) = nI q) (hi2 : ic (h + 1) = nI b) (hx : va (h + 1) = x)
    (hp : post (ym, yd, nI (e + 2), yc, nI (t + 1), nI h, nI (ca + 1), ye, yk, pP, yn, pF, stk, upd (upd me e (nI (8 * l1 + 2 * f + 1))) (e + 1) (nI (8 * (e + 1) + 2 * w + b)), upd (upd mt e (nI j)) (e + 1) x, cl, upd wa t (nI ((32 * (e + 2) + q) * 4 + 0)), va, ic)) :
    wpY_goOn post (ym, yd, nI e, yc, nI t, nI (h + 2), nI ca, ye, yk, pP, yn, pF, stk, me, mt, cl, wa, va, ic) (nI p) (nI 2) (nI l) := by
  have h2 : p < 2 ^ 31 := by omega
  have hv2 : vp_in (nI p) 24 := vp_in_nI hp1 (by decide)
  simp only [wpY_goOn, forall_eq, nI_clamp h2, hv2, true_and]
  rw [k2]
  exact br_f (by decide) (br_f (by decide) (br_f (by decide) (br_t rfl (yy_call2 hh ht hca he8 hj hp2 hw hf hb hi hv hc hn kP hi2 hx hp))))
theorem yg_arith {p l h o : Nat} {x y : Int32} (hp1 : p < 24) (hh : h + 1 < 680) (ho : o < 4) (k2 : yk p = nI o) (hi : ic h = 0) (hi2 : ic (h + 1) = 0) (hx : va h = x) (hy : va (h + 1) = y)
    (hp : post (ym, yd, li, yc, wt, nI (h + 1), yl, ye, yk, pP, yn, pF, stk, me, mt, cl, wa, upd va h (cc_ar o x y), upd ic h 0)) : wpY_goOn post (ym, yd, li, yc, wt, nI (h + 2), yl, ye, yk, pP, yn, pF, stk, me, mt, cl, wa, va, ic) (nI p) (nI 2) (nI l) := by
  have h2 : p < 2 ^ 31 := by omega
  have hv2 : vp_in (nI p) 24 := vp_in_nI hp1 (by decide)
  obtain ⟨o5, o6, o7, o8, o9⟩ := cc_ko o (by omega)
  have o4 : ¬ nI o = 4 := (cc_ko4 o ho)
  simp only [wpY_goOn, forall_eq, nI_clamp h2, hv2, true_and]
  rw [k2]
  exact br_f o5 (br_f o6 (br_f (by decide) (br_f o4 (yy_operate hh ho hi hi2 hx hy hp))))
theorem yg_arith0 {p l h o : Nat} (hp1 : p < 24) (hh : h + 1 < 680) (ho : o < 4) (k2 : yk p = nI o) (hi : ¬ (ic h = 0 ∧ ic (h + 1) = 0)) (hp : post (ym, yd, li, yc, wt, nI h, yl, 2, yk, pP, yn, pF, stk, me, mt, cl, wa, va, ic)) : wpY_goOn post (ym, yd, li, yc, wt, nI (h + 2), yl, ye, yk, pP, yn, pF, stk, me, mt, cl, wa, va, ic) (nI p) (nI 2) (nI l) := by
  have h2 : p < 2 ^ 31 := by omega
  have hv2 : vp_in (nI p) 24 := vp_in_nI hp1 (by decide)
  obtain ⟨o5, o6, o7, o8, o9⟩ := cc_ko o (by omega)
  have o4 : ¬ nI o = 4 := (cc_ko4 o ho)
  simp only [wpY_goOn, forall_eq, nI_clamp h2, hv2, true_and]
  rw [k2]
  exact br_f o5 (br_f o6 (br_f (by decide) (br_f o4 (yy_operate0 hh hi hp))))
end
end
section
/-! one turn of each loop -/
section
variable {mC sS tC rC sC cC kC en mC' sS' tC' rC' sC' cC' kC' en' : Int32} {pK pD pS pP pF stk tP tS tD rK rV mK mV cP cS pK' pD' pS' pP' pF' stk' tP' tS' tD' rK' rV' mK' mV' cP' cS' : Nat → Int32} {post : SX → Prop} {n st t : Nat}
theorem xl_comp (hst : st < 1000000) (htt : t + 1 < 2 ^ 31) (hN : ∀ P : Int32 → Prop, P 0 → wpX_topTaskNeedsPart P (mC, sS, nI (t + 1), rC, sC, cC, kC, -1, pK, pD, pS, pP, pF, stk, tP, tS, tD, rK, rV, mK, mV, cP, cS)) (hc : ∀ P : SX → Prop, P (mC', sS', tC', rC', sC', cC', kC', en', pK', pD', pS', pP', pF', stk', tP', tS', tD', rK', rV', mK', mV', cP', cS') → wpX_completeTopTask P (mC, sS, nI (t + 1), rC, sC, cC, kC, -1, pK, pD, pS, pP, pF, stk, tP, tS, tD, rK, rV, mK, mV, cP, cS)) (H : wX_runTop_6 post n (nI (st + 1)) mC' sS' tC' rC' sC' cC' kC' en' pK' pD' pS' pP' pF' stk' tP' tS' tD' rK' rV' mK' mV' cP' cS') :
    wX_runTop_6 post (n + 1) (nI st) mC sS (nI (t + 1)) rC sC cC kC (-1) pK pD pS pP pF stk tP tS tD rK rV mK mV cP cS := by
  exact br_f (nI_ge (b := 1000000) hst (by decide)) (br_t rfl (br_f (nI_ne0 (Nat.succ_pos t) htt) (hN _ (br_t rfl (hc _ (nm_r (nI_1 st) H))))))
theorem xl_part (hst : st < 1000000) (htt : t + 1 < 2 ^ 31) (hN : ∀ P : Int32 → Prop, P 1 → wpX_topTaskNeedsPart P (mC, sS, nI (t + 1), rC, sC, cC, kC, -1, pK, pD, pS, pP, pF, stk, tP, tS, tD, rK, rV, mK, mV, cP, cS)) (hc : ∀ P : SX → Prop, P (mC', sS', tC', rC', sC', cC', kC', en', pK', pD', pS', pP', pF', stk', tP', tS', tD', rK', rV', mK', mV', cP', cS') → wpX_beginNextPart P (mC, sS, nI (t + 1), rC, sC, cC, kC, -1, pK, pD, pS, pP, pF, stk, tP, tS, tD, rK, rV, mK, mV, cP, cS)) (H : wX_runTop_6 post n (nI (st + 1)) mC' sS' tC' rC' sC' cC' kC' en' pK' pD' pS' pP' pF' stk' tP' tS' tD' rK' rV' mK' mV' cP' cS') :
    wX_runTop_6 post (n + 1) (nI st) mC sS (nI (t + 1)) rC sC cC kC (-1) pK pD pS pP pF stk tP tS tD rK rV mK mV cP cS := by
  exact br_f (nI_ge (b := 1000000) hst (by decide)) (br_t rfl (br_f (nI_ne0 (Nat.succ_pos t) htt) (hN _ (br_f (by decide) (hc _ (nm_r (nI_1 st) H))))))
theorem xl_end {st : Int32} (hn : 1 ≤ n) (he : ¬ en = -1) (H : post (mC, sS, tC, rC, sC, cC, kC, en, pK, pD, pS, pP, pF, stk, tP, tS, tD, rK, rV, mK, mV, cP, cS)) : wX_runTop_6 post n st mC sS tC rC sC cC kC en pK pD pS pP pF stk tP tS tD rK rV mK mV cP cS := by
  obtain ⟨n, rfl⟩ : ∃ k, n = k + 1 := ⟨n - 1, by omega⟩
  exact br_c (fun _ => H) (fun _ => br_f he H)
theorem xl_nil (hst : st < 1000000) (H : wX_runTop_6 post n (nI (st + 1)) mC sS (nI 0) rC sC cC kC (rK 0) pK pD pS pP pF stk tP tS tD rK rV mK mV cP cS) : wX_runTop_6 post (n + 1) (nI st) mC sS (nI 0) rC sC cC kC (-1) pK pD pS pP pF stk tP tS tD rK rV mK mV cP cS := by
  exact br_f (nI_ge (b := 1000000) hst (by decide)) (br_t rfl (br_t nI_0 (nm_e (nm_r (nI_1 st) H))))
end
section
variable {ym yd li yc wt he yl ye ym' yd' li' yc' wt' he' yl' ye' : Int32} {yk pP yn pF stk me mt cl wa va ic yk' pP' yn' pF' stk' me' mt' cl' wa' va' ic' : Nat → Int32} {post : SY → Prop} {n t p l dd d : Nat}
theorem yl_begin (ht : t < 680) (hp : p < 24) (hl : l ≤ 800) (a6 : wa t = nI ((32 * l + p) * 4 + 0)) (hc : ∀ P : SY → Prop, P (ym', yd', li', yc', wt', he', yl', ye', yk', pP', yn', pF', stk', me', mt', cl', wa', va', ic') → wpY_begin P (ym, yd, li, yc, nI t, he, yl, -4, yk, pP, yn, pF, stk, me, mt, cl, wa, va, ic) (nI p) (nI l)) (H : wY_work_55 post n ym' yd' li' yc' wt' he' yl' ye' yk' pP' yn' pF' stk' me' mt' cl' wa' va' ic') :
    wY_work_55 post (n + 1) ym yd li yc (nI (t + 1)) he yl (-4) yk pP yn pF stk me mt cl wa va ic := by
  have h1 : t < 2 ^ 31 := by omega
  have hv : vp_in (nI t) 680 := vp_in_nI ht (by decide)
  have em : wa (nI t).toNatClampNeg = nI ((32 * l + p) * 4 + 0) := by rw [nI_clamp h1]; exact a6
  have q1 := cc_wd (l := l) (p := p) (d := 0) hl hp (by omega)
  have q2 := cc_wp (l := l) (p := p) (d := 0) hl hp (by omega)
  have q3 := cc_wl (l := l) (p := p) (d := 0) hl hp (by omega)
  rw [← em] at q1 q2 q3
  exact br_f (nI_nle (Nat.succ_pos t) (by omega)) (br_t rfl (nm_r (nI_pred t) ⟨hv, by decide, nm_r q1 ⟨hv, by decide, by decide, nm_r q2 ⟨hv, by decide, nm_r q3 (br_t nI_0 (hc _ H))⟩⟩⟩))
theorem yl_goOn (ht : t < 680) (hp : p < 24) (hl : l ≤ 800) (hd : dd < 3) (hd0 : dd ≠ 0) (a6 : wa t = nI ((32 * l + p) * 4 + dd)) (hc : ∀ P : SY → Prop, P (ym', yd', li', yc', wt', he', yl', ye', yk', pP', yn', pF', stk', me', mt', cl', wa', va', ic') → wpY_goOn P (ym, yd, li, yc, nI t, he, yl, -4, yk, pP, yn, pF, stk, me, mt, cl, wa, va, ic) (nI p) (nI dd) (nI l)) (H : wY_work_55 post n ym' yd' li' yc' wt' he' yl' ye' yk' pP' yn' pF' stk' me' mt' cl' wa' va' ic') :
    wY_work_55 post (n + 1) ym yd li yc (nI (t + 1)) he yl (-4) yk pP yn pF stk me mt cl wa va ic := by
  have h1 : t < 2 ^ 31 := by omega
  have hv : vp_in (nI t) 680 := vp_in_nI ht (by decide)
  have em : wa (nI t).toNatClampNeg = nI ((32 * l + p) * 4 + dd) := by rw [nI_clamp h1]; exact a6
  have q1 := cc_wd (l := l) (p := p) (d := dd) hl hp (by omega)
  have q2 := cc_wp (l := l) (p := p) (d := dd) hl hp (by omega)
  have q3 := cc_wl (l := l) (p := p) (d := dd) hl hp (by omega)
  rw [← em] at q1 q2 q3
  exact br_f (nI_nle (Nat.succ_pos t) (by omega)) (br_t rfl (nm_r (nI_pred t) ⟨hv, by decide, nm_r q1 ⟨hv, by decide, by decide, nm_r q2 ⟨hv, by decide, nm_r q3 (br_f (nI_ne0 (by omega) (by omega)) (hc _ H))⟩⟩⟩))
theorem yl_end (hn : 1 ≤ n) (hne : ¬ ye = -4) (H : post (ym, yd, li, yc, wt, he, yl, ye, yk, pP, yn, pF, stk, me, mt, cl, wa, va, ic)) : wY_work_55 post n ym yd li yc wt he yl ye yk pP yn pF stk me mt cl wa va ic := by
  obtain ⟨n, rfl⟩ : ∃ k, n = k + 1 := ⟨n - 1, by omega⟩
  have E : wY_work_145 post ym yd li yc wt he yl ye yk pP yn pF stk me mt cl wa va ic := br_c (fun _ => H) (fun _ => br_f hne H)
  exact br_c (fun _ => E) (fun _ => br_f hne E)
theorem yl_nil (hd : 0 < d) (hd6 : d ≤ 6) (hi : ic 0 = ye) (hk : ye = 0 ∨ ye = 1) (H : post (ym, nI d, li, yc, nI 0, he, yl, ye, yk, pP, yn, pF, stk, me, mt, cl, wa, va, ic)) : wY_work_55 post (n + 1) ym (nI d) li yc (nI 0) he yl (-4) yk pP yn pF stk me mt cl wa va ic := by
  have E : wY_work_145 post ym (nI d) li yc (nI 0) he yl (-4) yk pP yn pF stk me mt cl wa va ic := by
    refine br_f (nI_nle hd (by omega)) (br_t rfl ?_)
    rcases hk with rfl | rfl
    · exact br_t hi H
    · exact br_f (by rw [hi]; decide) H
  exact br_t (by decide) E
end
end
section
/-! the two loops in lockstep -/
def cc_Fin (m d : Nat) (pK pD pS pP pF stk yk yn : Nat → Int32) (A : (SX → Prop) → Prop) (B : (SY → Prop) → Prop) : Prop :=
  ∃ (tC rC sC cC kC en li wt he : Int32) (tP tS tD rK rV mK mV cP cS me mt cl wa va ic : Nat → Int32), (en = 0 → va 0 = rV 0) ∧
    (∀ P : SX → Prop, P (nI m, nI d, tC, rC, sC, cC, kC, en, pK, pD, pS, pP, pF, stk, tP, tS, tD, rK, rV, mK, mV, cP, cS) → A P) ∧ (∀ P : SY → Prop, P (nI m, nI d, li, cC, wt, he, kC, en, yk, pP, yn, pF, stk, me, mt, cl, wa, va, ic) → B P)
theorem cc_Fin_map {m d : Nat} {pK pD pS pP pF stk yk yn : Nat → Int32} {A A' : (SX → Prop) → Prop} {B B' : (SY → Prop) → Prop} (h : cc_Fin m d pK pD pS pP pF stk yk yn A B) (hA : ∀ P, A P → A' P) (hB : ∀ P, B P → B' P) :
    cc_Fin m d pK pD pS pP pF stk yk yn A' B' := by
  obtain ⟨tC, rC, sC, cC, kC, en, li, wt, he, tP, tS, tD, rK, rV, mK, mV, cP, cS, me, mt, cl, wa, va, ic, h1, h2, h3⟩ := h
  exact ⟨tC, rC, sC, cC, kC, en, li, wt, he, tP, tS, tD, rK, rV, mK, mV, cP, cS, me, mt, cl, wa, va, ic, h1, fun P hP => hA P (h2 P hP), fun P hP => hB P (h3 P hP)⟩
theorem cc_dk0 {pK : Nat → Int32} {p d : Nat} (h : cc_dk pK p d) (hk : pK p = 5 ∨ pK p = 6 ∨ pK p = 9) : d = 0 := by
  have ho : ¬ ∃ o, o < 5 ∧ pK p = nI o := by
    intro ⟨o, h1, h2⟩
    obtain ⟨a, b, _, _, c⟩ := cc_ko o h1
    rw [h2] at hk
    rcases hk with hk | hk | hk
    · exact a hk
    · exact b hk
    · exact c hk
  rcases h with h | ⟨_, h⟩ | ⟨_, h⟩
  · exact h
  · rcases h with h | h | h
    · rw [h] at hk; exact absurd hk (by decide)
    · rw [h] at hk; exact absurd hk (by decide)
    · exact absurd h ho
  · exact absurd h ho
theorem cc_dk1 {pK : Nat → Int32} {p d : Nat} (h : cc_dk pK p d) (hk : pK p = 7 ∨ pK p = 8) : d = 0 ∨ d = 1 := by
  rcases h with h | ⟨h, _⟩ | ⟨_, o, h1, h2⟩
  · exact Or.inl h
  · exact Or.inr h
  · obtain ⟨_, _, a, b, _⟩ := cc_ko o h1
    rw [h2] at hk
    rcases hk with hk | hk
    · exact absurd hk a
    · exact absurd hk b
theorem cc_dk2 {pK : Nat → Int32} {p d : Nat} (h : cc_dk pK p d) : d = 0 ∨ d = 1 ∨ d = 2 := by
  rcases h with h | ⟨h, _⟩ | ⟨h, _⟩
  · exact Or.inl h
  · exact Or.inr (Or.inl h)
  · exact Or.inr (Or.inr h)
def cc_G (m d : Nat) (pK pD pS pP pF stk yk yn : Nat → Int32) (sz rm : Nat → Nat) (n : Nat) : Prop :=
  ∀ (st : Nat) {T : List (Nat × Nat × Nat × Nat)} {h e sc c ca : Nat} {ek ew : Nat → Nat → Int32} {tP tS tD rK rV mK mV cP cS me mt cl wa va ic : Nat → Int32},
    cc_J m pK sz rm T h e sc c ca ek ew tP tS tD rK rV mK mV cP cS me mt cl wa va ic → cc_M sz rm T c ca + 2 ≤ n → st + cc_M sz rm T c ca < 900000 →
    cc_Fin m d pK pD pS pP pF stk yk yn (fun P => wX_runTop_6 P n (nI st) (nI m) (nI d) (nI T.length) (nI h) (nI sc) (nI c) (nI ca) (-1) pK pD pS pP pF stk tP tS tD rK rV mK mV cP cS)
      (fun P => wY_work_55 P n (nI m) (nI d) (nI e) (nI c) (nI T.length) (nI h) (nI ca) (-4) yk pP yn pF stk me mt cl wa va ic)
section
variable {m d n st : Nat} {pK pD pS pP pF stk yk yn : Nat → Int32} {sz rm : Nat → Nat} {t : List (Nat × Nat × Nat × Nat)} {h h0 e sc c ca p s dd l : Nat} {ek ew : Nat → Nat → Int32} {tP tS tD rK rV mK mV cP cS me mt cl wa va ic : Nat → Int32}
theorem cc_J_top (J : cc_J m pK sz rm ((p, s, dd, l) :: t) h e sc c ca ek ew tP tS tD rK rV mK mV cP cS me mt cl wa va ic) :
    p < m ∧ s < sc ∧ l ≤ e ∧ tP t.length = nI p ∧ tS t.length = nI s ∧ tD t.length = nI dd ∧ wa t.length = nI ((32 * l + p) * 4 + dd) ∧ cc_dk pK p dd ∧ h = (cc_c3 p dd + cc_sm cc_c3 t) + cc_b dd ∧ ∀ v, v < 4 → mK (s * 4 + v) = ek l v ∧ mV (s * 4 + v) = ew l v := by
  obtain ⟨⟨⟨a1, ⟨q1, q2, q3⟩, a3, a4, a5, a6, a7, a8, a9⟩, _⟩, hC, hV, hE, n1, n2, n3, n4, n5⟩ := J
  exact ⟨a1, q1, q2, a3, a4, a5, a6, a8, n1, q3⟩
theorem cs_number (G : cc_G m d pK pD pS pP pF stk yk yn sz rm n) (hm : m ≤ 24) (J : cc_J m pK sz rm ((p, s, 0, l) :: t) h e sc c ca ek ew tP tS tD rK rV mK mV cP cS me mt cl wa va ic)
    (hM : cc_M sz rm ((p, s, 0, l) :: t) c ca + 2 ≤ n + 1) (hs : st + cc_M sz rm ((p, s, 0, l) :: t) c ca < 900000) (hz : 1 ≤ sz p) (k1 : pK p = 5) (k2 : yk p = 8) (k3 : yn p = pD p) : cc_Fin m d pK pD pS pP pF stk yk yn (fun P => wX_runTop_6 P (n + 1) (nI st) (nI m) (nI d) (nI (t.length + 1)) (nI h) (nI sc) (nI c) (nI ca) (-1) pK pD pS pP pF stk tP tS tD rK rV mK mV cP cS)
      (fun P => wY_work_55 P (n + 1) (nI m) (nI d) (nI e) (nI c) (nI (t.length + 1)) (nI h) (nI ca) (-4) yk pP yn pF stk me mt cl wa va ic) := by
  obtain ⟨b1, b2, b3, b4, b5, b6, b7⟩ := cc_J_len J hz
  obtain ⟨a1, q1, q2, a3, a4, a5, a6, a8, n1, q3⟩ := cc_J_top J
  have hh : h = cc_sm cc_c3 t := by
    have : h = 0 + cc_sm cc_c3 t + 0 := n1
    omega
  obtain ⟨J1, M1⟩ := cc_J_pop J hz hh (Or.inl rfl : cc_VK c 0 (pD p))
  refine cc_Fin_map (G (st + 1) J1 (by omega) (by omega)) (fun P H => ?_) (fun P H => ?_)
  · exact xl_comp (by omega) (by omega) (fun P hP => xx_needs0 (nn := 0) (by omega) (by omega) (by omega) (by omega) a3 a5 (by omega) (fun P hP => xx_parts0 (Or.inl k1) hP) hP)
      (fun P hP => xc_number (by omega) (by omega) (by omega) a3 a4 k1 hP) H
  · exact yl_begin (by omega) (by omega) (by omega) a6 (fun P hP => yb_number (by omega) (by omega) k2 k3 hP) H
theorem cs_name (G : cc_G m d pK pD pS pP pF stk yk yn sz rm n) (hm : m ≤ 24) (J : cc_J m pK sz rm ((p, s, 0, l) :: t) h e sc c ca ek ew tP tS tD rK rV mK mV cP cS me mt cl wa va ic)
    (hM : cc_M sz rm ((p, s, 0, l) :: t) c ca + 2 ≤ n + 1) (hs : st + cc_M sz rm ((p, s, 0, l) :: t) c ca < 900000) (hz : 1 ≤ sz p) (k1 : pK p = 6) (k2 : yk p = 9) {w : Nat} (hw : w < 4) (k3 : pD p = nI w) (k4 : yn p = nI w) : cc_Fin m d pK pD pS pP pF stk yk yn (fun P => wX_runTop_6 P (n + 1) (nI st) (nI m) (nI d) (nI (t.length + 1)) (nI h) (nI sc) (nI c) (nI ca) (-1) pK pD pS pP pF stk tP tS tD rK rV mK mV cP cS)
      (fun P => wY_work_55 P (n + 1) (nI m) (nI d) (nI e) (nI c) (nI (t.length + 1)) (nI h) (nI ca) (-4) yk pP yn pF stk me mt cl wa va ic) := by
  obtain ⟨b1, b2, b3, b4, b5, b6, b7⟩ := cc_J_len J hz
  obtain ⟨a1, q1, q2, a3, a4, a5, a6, a8, n1, q3⟩ := cc_J_top J
  have hh : h = cc_sm cc_c3 t := by
    have : h = 0 + cc_sm cc_c3 t + 0 := n1
    omega
  have hE : cc_E e c me mt ek ew := J.2.2.2.1
  obtain ⟨g1, g2⟩ := q3 w hw
  have hN : ∀ P : Int32 → Prop, P 0 → wpX_topTaskNeedsPart P (nI m, nI d, nI (t.length + 1), nI h, nI sc, nI c, nI ca, -1, pK, pD, pS, pP, pF, stk, tP, tS, tD, rK, rV, mK, mV, cP, cS) :=
    fun P hP => xx_needs0 (nn := 0) (by omega) (by omega) (by omega) (by omega) a3 a5 (by omega) (fun P hP => xx_parts0 (Or.inr (Or.inl k1)) hP) hP
  by_cases hk : ek l w = -1
  · refine ⟨nI (t.length + 1), nI h, nI sc, nI c, nI ca, 2, nI e, nI t.length, nI h, tP, tS, tD, rK, rV, mK, mV, cP, cS, me, mt, cl, wa, va, ic, fun z => absurd z (by decide), fun P H => ?_, fun P H => ?_⟩
    · exact xl_comp (n := n) (by omega) (by omega) hN (fun P hP => xc_name0 (by omega) (by omega) (by omega) hw a3 a4 k1 k3 (g1.trans hk) hP) (xl_end (by omega) (by decide) H)
    · exact yl_begin (by omega) (by omega) (by omega) a6 (fun P hP => yb_name0 (by omega) hw hE q2 (by omega) (by omega) k2 k4 hk hP) (yl_end (by omega) (by decide) H)
  · have hv : cc_VK c (ek l w) (ew l w) := (hE.2.2 l w q2 hw).resolve_left hk
    obtain ⟨J1, M1⟩ := cc_J_pop J hz hh hv
    refine cc_Fin_map (G (st + 1) J1 (by omega) (by omega)) (fun P H => ?_) (fun P H => ?_)
    · rw [← g1, ← g2] at H
      exact xl_comp (by omega) (by omega) hN (fun P hP => xc_name1 (by omega) (by omega) (by omega) hw (by omega) a3 a4 k1 k3 (fun z => hk (g1.symm.trans z)) hP) H
    · exact yl_begin (by omega) (by omega) (by omega) a6 (fun P hP => yb_name1 (by omega) hw hE q2 (by omega) (by omega) k2 k4 hk hP) H
theorem cs_function (G : cc_G m d pK pD pS pP pF stk yk yn sz rm n) (hm : m ≤ 24) (J : cc_J m pK sz rm ((p, s, 0, l) :: t) h e sc c ca ek ew tP tS tD rK rV mK mV cP cS me mt cl wa va ic)
    (hM : cc_M sz rm ((p, s, 0, l) :: t) c ca + 2 ≤ n + 1) (hs : st + cc_M sz rm ((p, s, 0, l) :: t) c ca < 900000) (hz : 2 ≤ sz p) (k1 : pK p = 9) (k2 : yk p = 7) : cc_Fin m d pK pD pS pP pF stk yk yn (fun P => wX_runTop_6 P (n + 1) (nI st) (nI m) (nI d) (nI (t.length + 1)) (nI h) (nI sc) (nI c) (nI ca) (-1) pK pD pS pP pF stk tP tS tD rK rV mK mV cP cS)
      (fun P => wY_work_55 P (n + 1) (nI m) (nI d) (nI e) (nI c) (nI (t.length + 1)) (nI h) (nI ca) (-4) yk pP yn pF stk me mt cl wa va ic) := by
  obtain ⟨b1, b2, b3, b4, b5, b6, b7⟩ := cc_J_len J (Nat.le_of_succ_le hz)
  obtain ⟨a1, q1, q2, a3, a4, a5, a6, a8, n1, q3⟩ := cc_J_top J
  obtain ⟨J1, M1⟩ := cc_J_fun J hz k1
  refine cc_Fin_map (G (st + 1) J1 (by omega) (by omega)) (fun P H => ?_) (fun P H => ?_)
  · exact xl_comp (by omega) (by omega) (fun P hP => xx_needs0 (nn := 0) (by omega) (by omega) (by omega) (by omega) a3 a5 (by omega) (fun P hP => xx_parts0 (Or.inr (Or.inr k1)) hP) hP)
      (fun P hP => xc_function (by omega) (by omega) (by omega) (by omega) a3 a4 k1 hP) H
  · exact yl_begin (by omega) (by omega) (by omega) a6 (fun P hP => yb_function (by omega) (by omega) (by omega) (by omega) k2 hP) H
theorem cs_next0 (G : cc_G m d pK pD pS pP pF stk yk yn sz rm n) (hm : m ≤ 24) (J : cc_J m pK sz rm ((p, s, 0, l) :: t) h e sc c ca ek ew tP tS tD rK rV mK mV cP cS me mt cl wa va ic)
    (hM : cc_M sz rm ((p, s, 0, l) :: t) c ca + 2 ≤ n + 1) (hs : st + cc_M sz rm ((p, s, 0, l) :: t) c ca < 900000) {q nn : Nat} (hq : q < m) (h1 : 1 ≤ sz q) (h2 : 1 ≤ rm p) (hz : sz p = 1 + sz q + rm p) (hd : cc_dk pK p 1)
    (hnn : 0 < nn) (hn3 : nn < 3) (kX : ∀ P : Int32 → Prop, P (nI nn) → wpX_partsWorkedOutFirst P (pK p)) (k7 : ¬ yk p = 7) (k8 : ¬ yk p = 8) (k9 : ¬ yk p = 9) (kP : pP (3 * p) = nI q) : cc_Fin m d pK pD pS pP pF stk yk yn (fun P => wX_runTop_6 P (n + 1) (nI st) (nI m) (nI d) (nI (t.length + 1)) (nI h) (nI sc) (nI c) (nI ca) (-1) pK pD pS pP pF stk tP tS tD rK rV mK mV cP cS)
      (fun P => wY_work_55 P (n + 1) (nI m) (nI d) (nI e) (nI c) (nI (t.length + 1)) (nI h) (nI ca) (-4) yk pP yn pF stk me mt cl wa va ic) := by
  obtain ⟨b1, b2, b3, b4, b5, b6, b7⟩ := cc_J_len J (show 1 ≤ sz p by omega)
  obtain ⟨a1, q1, q2, a3, a4, a5, a6, a8, n1, q3⟩ := cc_J_top J
  obtain ⟨J1, M1⟩ := cc_J_next0 J hq h1 h2 hz hd
  have g : 2 * t.length + sz p ≤ 1224 := b2
  refine cc_Fin_map (G (st + 1) J1 (by omega) (by omega)) (fun P H => ?_) (fun P H => ?_)
  · exact xl_part (by omega) (by omega) (fun P hP => xx_needs1 (nn := nn) (by omega) (by omega) (by omega) (by omega) a3 a5 (by omega) kX hP)
      (fun P hP => xx_beginNextPart (dd := 0) (by omega) (by omega) (by omega) a3 a4 a5 kP hP) H
  · exact yl_begin (by omega) (by omega) (by omega) a6 (fun P hP => yb_node (by omega) (by omega) k7 k8 k9 kP hP) H
theorem cs_next1 (G : cc_G m d pK pD pS pP pF stk yk yn sz rm n) (hm : m ≤ 24) (J : cc_J m pK sz rm ((p, s, 1, l) :: t) h e sc c ca ek ew tP tS tD rK rV mK mV cP cS me mt cl wa va ic)
    (hM : cc_M sz rm ((p, s, 1, l) :: t) c ca + 2 ≤ n + 1) (hs : st + cc_M sz rm ((p, s, 1, l) :: t) c ca < 900000) {q o : Nat} (hq : q < m) (h1 : 1 ≤ sz q) (h2 : rm p = sz q) (hz : sz q + 2 ≤ sz p)
    (ho : o < 5) (k1 : pK p = nI o) (k2 : yk p = nI o) (kP : pP (3 * p + 1) = nI q) : cc_Fin m d pK pD pS pP pF stk yk yn (fun P => wX_runTop_6 P (n + 1) (nI st) (nI m) (nI d) (nI (t.length + 1)) (nI h) (nI sc) (nI c) (nI ca) (-1) pK pD pS pP pF stk tP tS tD rK rV mK mV cP cS)
      (fun P => wY_work_55 P (n + 1) (nI m) (nI d) (nI e) (nI c) (nI (t.length + 1)) (nI h) (nI ca) (-4) yk pP yn pF stk me mt cl wa va ic) := by
  obtain ⟨b1, b2, b3, b4, b5, b6, b7⟩ := cc_J_len J (show 1 ≤ sz p by omega)
  obtain ⟨a1, q1, q2, a3, a4, a5, a6, a8, n1, q3⟩ := cc_J_top J
  obtain ⟨J1, M1⟩ := cc_J_next1 J hq h1 h2 hz (Or.inr (Or.inr ⟨rfl, o, ho, k1⟩))
  have g : 2 * t.length + sz p ≤ 1224 := b2
  refine cc_Fin_map (G (st + 1) J1 (by omega) (by omega)) (fun P H => ?_) (fun P H => ?_)
  · exact xl_part (by omega) (by omega) (fun P hP => xx_needs1 (nn := 2) (by omega) (by omega) (by omega) (by omega) a3 a5 (by omega) (fun P hP => by rw [k1]; exact xx_parts2 ho hP) hP)
      (fun P hP => xx_beginNextPart (dd := 1) (by omega) (by omega) (by omega) a3 a4 a5 kP hP) H
  · exact yl_goOn (by omega) (by omega) (by omega) (by omega) (by omega) a6 (fun P hP => yg_next (by omega) (by omega) ho k2 kP hP) H
theorem cs_choose (G : cc_G m d pK pD pS pP pF stk yk yn sz rm n) (hm : m ≤ 24) (J : cc_J m pK sz rm ((p, s, 1, l) :: t) h e sc c ca ek ew tP tS tD rK rV mK mV cP cS me mt cl wa va ic)
    (hM : cc_M sz rm ((p, s, 1, l) :: t) c ca + 2 ≤ n + 1) (hs : st + cc_M sz rm ((p, s, 1, l) :: t) c ca < 900000) {q q' : Nat} (hq : q < m) (hq' : q' < m) (h1 : 1 ≤ sz q) (h1' : 1 ≤ sz q') (h2 : rm p = sz q + sz q') (hz : sz q + sz q' ≤ sz p)
    (k1 : pK p = 7) (k2 : yk p = 5) (kP : pP (3 * p + 1) = nI q) (kP' : pP (3 * p + 2) = nI q') : cc_Fin m d pK pD pS pP pF stk yk yn (fun P => wX_runTop_6 P (n + 1) (nI st) (nI m) (nI d) (nI (t.length + 1)) (nI h) (nI sc) (nI c) (nI ca) (-1) pK pD pS pP pF stk tP tS tD rK rV mK mV cP cS)
      (fun P => wY_work_55 P (n + 1) (nI m) (nI d) (nI e) (nI c) (nI (t.length + 1)) (nI h) (nI ca) (-4) yk pP yn pF stk me mt cl wa va ic) := by
  obtain ⟨b1, b2, b3, b4, b5, b6, b7⟩ := cc_J_len J (show 1 ≤ sz p by omega)
  obtain ⟨a1, q1, q2, a3, a4, a5, a6, a8, n1, q3⟩ := cc_J_top J
  have g : 2 * t.length + sz p ≤ 1224 := b2
  obtain ⟨h0, rfl⟩ : ∃ h0, h = h0 + 1 := ⟨cc_sm cc_c3 t, by have : h = 0 + cc_sm cc_c3 t + 1 := n1; omega⟩
  obtain ⟨v1, v2, v3⟩ : va h0 = rV h0 ∧ ic h0 = rK h0 ∧ cc_VK c (rK h0) (rV h0) := J.2.2.1 h0 (Nat.lt_succ_self h0)
  have hN : ∀ P : Int32 → Prop, P 0 → wpX_topTaskNeedsPart P (nI m, nI d, nI (t.length + 1), nI (h0 + 1), nI sc, nI c, nI ca, -1, pK, pD, pS, pP, pF, stk, tP, tS, tD, rK, rV, mK, mV, cP, cS) :=
    fun P hP => xx_needs0 (nn := 1) (by omega) (by omega) (by omega) (by omega) a3 a5 (by omega) (fun P hP => xx_parts1 (Or.inl k1) hP) hP
  by_cases hk : rK h0 = 0
  · have hi0 : ic h0 = 0 := v2.trans hk
    by_cases hx : rV h0 = 0
    · obtain ⟨J1, M1⟩ := cc_J_choose J hq' h1' (by omega) (by omega)
      refine cc_Fin_map (G (st + 1) J1 (by omega) (by omega)) (fun P H => ?_) (fun P H => ?_)
      · exact xl_comp (by omega) (by omega) hN (fun P hP => xc_choose (i := 2) (by omega) (by omega) (by omega) a3 a4 k1 hk (Or.inr ⟨hx, rfl⟩) kP' hP) H
      · exact yl_goOn (by omega) (by omega) (by omega) (by omega) (by omega) a6 (fun P hP => yg_choose (i := 2) (by omega) (by omega) (by omega) k2 hi0 (Or.inr ⟨v1.trans hx, rfl⟩) kP' hP) H
    · obtain ⟨J1, M1⟩ := cc_J_choose J hq h1 (by omega) (by omega)
      refine cc_Fin_map (G (st + 1) J1 (by omega) (by omega)) (fun P H => ?_) (fun P H => ?_)
      · exact xl_comp (by omega) (by omega) hN (fun P hP => xc_choose (i := 1) (by omega) (by omega) (by omega) a3 a4 k1 hk (Or.inl ⟨hx, rfl⟩) kP hP) H
      · exact yl_goOn (by omega) (by omega) (by omega) (by omega) (by omega) a6 (fun P hP => yg_choose (i := 1) (by omega) (by omega) (by omega) k2 hi0 (Or.inl ⟨fun z => hx (v1.symm.trans z), rfl⟩) kP hP) H
  · refine ⟨nI (t.length + 1), nI h0, nI sc, nI c, nI ca, 2, nI e, nI t.length, nI h0, tP, tS, tD, rK, rV, mK, mV, cP, cS, me, mt, cl, wa, va, ic, fun z => absurd z (by decide), fun P H => ?_, fun P H => ?_⟩
    · exact xl_comp (n := n) (by omega) (by omega) hN (fun P hP => xc_choose0 (by omega) (by omega) (by omega) a3 a4 k1 hk hP) (xl_end (by omega) (by decide) H)
    · exact yl_goOn (by omega) (by omega) (by omega) (by omega) (by omega) a6 (fun P hP => yg_choose0 (by omega) (by omega) k2 (fun z => hk (v2.symm.trans z)) hP) (yl_end (by omega) (by decide) H)
theorem cs_bind (G : cc_G m d pK pD pS pP pF stk yk yn sz rm n) (hm : m ≤ 24) (J : cc_J m pK sz rm ((p, s, 1, l) :: t) h e sc c ca ek ew tP tS tD rK rV mK mV cP cS me mt cl wa va ic)
    (hM : cc_M sz rm ((p, s, 1, l) :: t) c ca + 2 ≤ n + 1) (hs : st + cc_M sz rm ((p, s, 1, l) :: t) c ca < 900000) {q w : Nat} (hq : q < m) (h1 : 1 ≤ sz q) (h2 : rm p = sz q) (hz : sz q + 2 ≤ sz p) (hw : w < 4)
    (k1 : pK p = 8) (k2 : yk p = 6) (k3 : pD p = nI w) (k4 : yn p = nI w) (kP : pP (3 * p + 1) = nI q) : cc_Fin m d pK pD pS pP pF stk yk yn (fun P => wX_runTop_6 P (n + 1) (nI st) (nI m) (nI d) (nI (t.length + 1)) (nI h) (nI sc) (nI c) (nI ca) (-1) pK pD pS pP pF stk tP tS tD rK rV mK mV cP cS)
      (fun P => wY_work_55 P (n + 1) (nI m) (nI d) (nI e) (nI c) (nI (t.length + 1)) (nI h) (nI ca) (-4) yk pP yn pF stk me mt cl wa va ic) := by
  obtain ⟨b1, b2, b3, b4, b5, b6, b7⟩ := cc_J_len J (show 1 ≤ sz p by omega)
  obtain ⟨a1, q1, q2, a3, a4, a5, a6, a8, n1, q3⟩ := cc_J_top J
  have g : 2 * t.length + sz p ≤ 1224 := b2
  obtain ⟨h0, rfl⟩ : ∃ h0, h = h0 + 1 := ⟨cc_sm cc_c3 t, by have : h = 0 + cc_sm cc_c3 t + 1 := n1; omega⟩
  obtain ⟨v1, v2, v3⟩ : va h0 = rV h0 ∧ ic h0 = rK h0 ∧ cc_VK c (rK h0) (rV h0) := J.2.2.1 h0 (Nat.lt_succ_self h0)
  obtain ⟨b, hb, eb⟩ := cc_VK_b v3
  rw [eb] at v3
  obtain ⟨o1, o2⟩ := cc_os_b (A := mK) (w := w) (x := nI b) q1
  obtain ⟨o3, o4⟩ := cc_os_b (A := mV) (w := w) (x := rV h0) q1
  obtain ⟨J1, M1⟩ := cc_J_bind (mK' := upd (cc_os mK sc s 4) (sc * 4 + w) (nI b)) (mV' := upd (cc_os mV sc s 4) (sc * 4 + w) (rV h0)) (x := rV h0) J hq h1 (by omega) (by omega) hw hb v3 (fun j hj => ⟨o1 j hj, o3 j hj⟩) (fun v hv => ⟨o2 v hv, o4 v hv⟩)
  refine cc_Fin_map (G (st + 1) J1 (by omega) (by omega)) (fun P H => ?_) (fun P H => ?_)
  · exact xl_comp (by omega) (by omega) (fun P hP => xx_needs0 (nn := 1) (by omega) (by omega) (by omega) (by omega) a3 a5 (by omega) (fun P hP => xx_parts1 (Or.inr k1) hP) hP)
      (fun P hP => xc_bind (by omega) (by omega) (by omega) (by omega) (by omega) hw a3 a4 k1 k3 eb kP hP) H
  · exact yl_goOn (by omega) (by omega) (by omega) (by omega) (by omega) a6 (fun P hP => yg_bind (by omega) (by omega) (by omega) (by omega) hb k2 k4 (v2.trans eb) v1 kP hP) H
theorem cc_fn (h : cc_St m pK pD pS pP yk yn sz rm p) (hk : pK p = 9) : ∃ w f b, w < 4 ∧ f < 4 ∧ b < m ∧ pD p = nI w ∧ pS p = nI f ∧ yn p = nI (4 * f + w) ∧ pP (3 * p) = nI b ∧ sz p = 1 + sz b := by
  rcases h with ⟨h1, _⟩ | ⟨h1, _⟩ | ⟨_, _, h3⟩ | ⟨h1, _⟩ | ⟨h1, _⟩ | ⟨o, a, b, h3, _, _, h6, _⟩
  · rw [hk] at h1; exact absurd h1 (by decide)
  · rw [hk] at h1; exact absurd h1 (by decide)
  · exact h3
  · rw [hk] at h1; exact absurd h1 (by decide)
  · rw [hk] at h1; exact absurd h1 (by decide)
  · rw [hk] at h6; exact absurd h6.symm (cc_ko o h3).2.2.2.2
theorem cs_apply (G : cc_G m d pK pD pS pP pF stk yk yn sz rm n) (hm : m ≤ 24) (hA : cc_Al m pK pD pS pP yk yn sz rm) (J : cc_J m pK sz rm ((p, s, 2, l) :: t) h e sc c ca ek ew tP tS tD rK rV mK mV cP cS me mt cl wa va ic)
    (hM : cc_M sz rm ((p, s, 2, l) :: t) c ca + 2 ≤ n + 1) (hs : st + cc_M sz rm ((p, s, 2, l) :: t) c ca < 900000) (hz : 3 ≤ sz p) (k1 : pK p = 4) (k2 : yk p = 4) : cc_Fin m d pK pD pS pP pF stk yk yn (fun P => wX_runTop_6 P (n + 1) (nI st) (nI m) (nI d) (nI (t.length + 1)) (nI h) (nI sc) (nI c) (nI ca) (-1) pK pD pS pP pF stk tP tS tD rK rV mK mV cP cS)
      (fun P => wY_work_55 P (n + 1) (nI m) (nI d) (nI e) (nI c) (nI (t.length + 1)) (nI h) (nI ca) (-4) yk pP yn pF stk me mt cl wa va ic) := by
  obtain ⟨b1, b2, b3, b4, b5, b6, b7⟩ := cc_J_len J (show 1 ≤ sz p by omega)
  obtain ⟨a1, q1, q2, a3, a4, a5, a6, a8, n1, q3⟩ := cc_J_top J
  have g : 2 * t.length + sz p ≤ 1224 := b2
  obtain ⟨h0, rfl⟩ : ∃ h0, h = h0 + 2 := ⟨cc_sm cc_c3 t, by have : h = 1 + cc_sm cc_c3 t + 1 := n1; omega⟩
  obtain ⟨v1, v2, v3⟩ : va h0 = rV h0 ∧ ic h0 = rK h0 ∧ cc_VK c (rK h0) (rV h0) := J.2.2.1 h0 (by omega)
  obtain ⟨v4, v5, v6⟩ : va (h0 + 1) = rV (h0 + 1) ∧ ic (h0 + 1) = rK (h0 + 1) ∧ cc_VK c (rK (h0 + 1)) (rV (h0 + 1)) := J.2.2.1 (h0 + 1) (by omega)
  have hN : ∀ P : Int32 → Prop, P 0 → wpX_topTaskNeedsPart P (nI m, nI d, nI (t.length + 1), nI (h0 + 2), nI sc, nI c, nI ca, -1, pK, pD, pS, pP, pF, stk, tP, tS, tD, rK, rV, mK, mV, cP, cS) :=
    fun P hP => xx_needs0 (nn := 2) (by omega) (by omega) (by omega) (by omega) a3 a5 (by omega) (fun P hP => by rw [k1]; exact xx_parts2 (o := 4) (by omega) hP) hP
  rcases v3 with v3 | ⟨v3, j, hj, v7⟩
  · refine ⟨nI (t.length + 1), nI h0, nI sc, nI c, nI ca, 2, nI e, nI t.length, nI h0, tP, tS, tD, rK, rV, mK, mV, cP, cS, me, mt, cl, wa, va, ic, fun z => absurd z (by decide), fun P H => ?_, fun P H => ?_⟩
    · exact xl_comp (n := n) (by omega) (by omega) hN (fun P hP => xc_apply0 (by omega) (by omega) (by omega) a3 a4 k1 v3 hP) (xl_end (by omega) (by decide) H)
    · exact yl_goOn (by omega) (by omega) (by omega) (by omega) (by omega) a6 (fun P hP => yg_apply0 (by omega) (by omega) k2 (v2.trans v3) hP) (yl_end (by omega) (by decide) H)
  · by_cases hca : ca = 60
    · refine ⟨nI (t.length + 1), nI h0, nI sc, nI c, nI ca, 3, nI e, nI t.length, nI h0, tP, tS, tD, rK, rV, mK, mV, cP, cS, me, mt, cl, wa, va, ic, fun z => absurd z (by decide), fun P H => ?_, fun P H => ?_⟩
      · exact xl_comp (n := n) (by omega) (by omega) hN (fun P hP => xc_apply1 (by omega) (by omega) (by omega) hca a3 a4 k1 v3 hP) (xl_end (by omega) (by decide) H)
      · exact yl_goOn (by omega) (by omega) (by omega) (by omega) (by omega) a6 (fun P hP => yg_apply1 (by omega) (by omega) hca k2 (v2.trans v3) hP) (yl_end (by omega) (by decide) H)
    · obtain ⟨p1, s1, l1, c1, c2, c3, c4, c5, c6⟩ := J.2.1 j hj
      obtain ⟨z1, z2, z3⟩ := hA p1 c1
      obtain ⟨w, f, q, hw, hf, hq, f1, f2, f3, f4, f5⟩ := cc_fn z3 c3
      obtain ⟨y1, y2, y3⟩ := hA q hq
      obtain ⟨b, hb, eb⟩ := cc_VK_b v6
      rw [eb] at v6
      have c2' : cc_Q sc e mK mV ek ew s1 l1 := c2
      obtain ⟨o1, o2⟩ := cc_os_c (A := mK) (w := w) (f := f) (x := nI b) (y := nI 1) c2'.1
      obtain ⟨o3, o4⟩ := cc_os_c (A := mV) (w := w) (f := f) (x := rV (h0 + 1)) (y := nI j) c2'.1
      obtain ⟨J1, M1⟩ := cc_J_call (mK' := upd (upd (cc_os mK sc s1 4) (sc * 4 + f) (nI 1)) (sc * 4 + w) (nI b)) (mV' := upd (upd (cc_os mV sc s1 4) (sc * 4 + f) (nI j)) (sc * 4 + w) (rV (h0 + 1))) (x := rV (h0 + 1)) J hq y1 (by omega) hz (by omega) hw hf hb hj v6 c2' (fun j hj => ⟨o1 j hj, o3 j hj⟩) (fun v hv => ⟨o2 v hv, o4 v hv⟩)
      have c21 := c2'.1
      have c22 := c2'.2.1
      refine cc_Fin_map (G (st + 1) J1 (by omega) (by omega)) (fun P H => ?_) (fun P H => ?_)
      · exact xl_comp (by omega) (by omega) hN (fun P hP => xc_apply2 (by omega) (by omega) (by omega) (by omega) (by omega) (by omega) (by omega) (by omega) hw hf a3 a4 k1 v3 v7 c4 c5 f1 f2 f4 eb hP) H
      · exact yl_goOn (by omega) (by omega) (by omega) (by omega) (by omega) a6 (fun P hP => yg_apply2 (by omega) (by omega) (by omega) (by omega) (by omega) (by omega) (by omega) hw hf hb k2 (v2.trans v3) (v1.trans v7) c6 f3 f4 (v5.trans eb) v4 hP) H
theorem cs_arith (G : cc_G m d pK pD pS pP pF stk yk yn sz rm n) (hm : m ≤ 24) (J : cc_J m pK sz rm ((p, s, 2, l) :: t) h e sc c ca ek ew tP tS tD rK rV mK mV cP cS me mt cl wa va ic)
    (hM : cc_M sz rm ((p, s, 2, l) :: t) c ca + 2 ≤ n + 1) (hs : st + cc_M sz rm ((p, s, 2, l) :: t) c ca < 900000) (hz : 3 ≤ sz p) {o : Nat} (ho : o < 4) (k1 : pK p = nI o) (k2 : yk p = nI o) : cc_Fin m d pK pD pS pP pF stk yk yn (fun P => wX_runTop_6 P (n + 1) (nI st) (nI m) (nI d) (nI (t.length + 1)) (nI h) (nI sc) (nI c) (nI ca) (-1) pK pD pS pP pF stk tP tS tD rK rV mK mV cP cS)
      (fun P => wY_work_55 P (n + 1) (nI m) (nI d) (nI e) (nI c) (nI (t.length + 1)) (nI h) (nI ca) (-4) yk pP yn pF stk me mt cl wa va ic) := by
  obtain ⟨b1, b2, b3, b4, b5, b6, b7⟩ := cc_J_len J (show 1 ≤ sz p by omega)
  obtain ⟨a1, q1, q2, a3, a4, a5, a6, a8, n1, q3⟩ := cc_J_top J
  have g : 2 * t.length + sz p ≤ 1224 := b2
  have hh : h = 1 + cc_sm cc_c3 t + 1 := n1
  obtain ⟨h0, rfl⟩ : ∃ h0, h = h0 + 2 := ⟨cc_sm cc_c3 t, by omega⟩
  have hh0 : h0 = cc_sm cc_c3 t := by omega
  obtain ⟨v1, v2, v3⟩ : va h0 = rV h0 ∧ ic h0 = rK h0 ∧ cc_VK c (rK h0) (rV h0) := J.2.2.1 h0 (by omega)
  obtain ⟨v4, v5, v6⟩ : va (h0 + 1) = rV (h0 + 1) ∧ ic (h0 + 1) = rK (h0 + 1) ∧ cc_VK c (rK (h0 + 1)) (rV (h0 + 1)) := J.2.2.1 (h0 + 1) (by omega)
  have hN : ∀ P : Int32 → Prop, P 0 → wpX_topTaskNeedsPart P (nI m, nI d, nI (t.length + 1), nI (h0 + 2), nI sc, nI c, nI ca, -1, pK, pD, pS, pP, pF, stk, tP, tS, tD, rK, rV, mK, mV, cP, cS) :=
    fun P hP => xx_needs0 (nn := 2) (by omega) (by omega) (by omega) (by omega) a3 a5 (by omega) (fun P hP => by rw [k1]; exact xx_parts2 (by omega) hP) hP
  by_cases hk : rK h0 = 0 ∧ rK (h0 + 1) = 0
  · obtain ⟨J1, M1⟩ := cc_J_pop J (show 1 ≤ sz p by omega) hh0 (Or.inl rfl : cc_VK c 0 (cc_ar o (rV h0) (rV (h0 + 1))))
    refine cc_Fin_map (G (st + 1) J1 (by omega) (by omega)) (fun P H => ?_) (fun P H => ?_)
    · exact xl_comp (by omega) (by omega) hN (fun P hP => xc_arith (by omega) (by omega) (by omega) ho a3 a4 k1 hk.1 hk.2 hP) H
    · exact yl_goOn (by omega) (by omega) (by omega) (by omega) (by omega) a6 (fun P hP => yg_arith (by omega) (by omega) ho k2 (v2.trans hk.1) (v5.trans hk.2) v1 v4 hP) H
  · refine ⟨nI (t.length + 1), nI h0, nI sc, nI c, nI ca, 2, nI e, nI t.length, nI h0, tP, tS, tD, rK, rV, mK, mV, cP, cS, me, mt, cl, wa, va, ic, fun z => absurd z (by decide), fun P H => ?_, fun P H => ?_⟩
    · exact xl_comp (n := n) (by omega) (by omega) hN (fun P hP => xc_arith0 (by omega) (by omega) (by omega) ho a3 a4 k1 hk hP) (xl_end (by omega) (by decide) H)
    · exact yl_goOn (by omega) (by omega) (by omega) (by omega) (by omega) a6 (fun P hP => yg_arith0 (by omega) (by omega) ho k2 (fun z => hk ⟨v2.symm.trans z.1, v5.symm.trans z.2⟩) hP) (yl_end (by omega) (by decide) H)
theorem cs_nil (hd : 0 < d) (J : cc_J m pK sz rm [] h e sc c ca ek ew tP tS tD rK rV mK mV cP cS me mt cl wa va ic) (hd6 : d ≤ 6) (hn : 1 ≤ n) (hs : st < 900000) :
    cc_Fin m d pK pD pS pP pF stk yk yn (fun P => wX_runTop_6 P (n + 1) (nI st) (nI m) (nI d) (nI 0) (nI h) (nI sc) (nI c) (nI ca) (-1) pK pD pS pP pF stk tP tS tD rK rV mK mV cP cS)
      (fun P => wY_work_55 P (n + 1) (nI m) (nI d) (nI e) (nI c) (nI 0) (nI h) (nI ca) (-4) yk pP yn pF stk me mt cl wa va ic) := by
  have n1 : h = 0 + 1 := J.2.2.2.2.1
  obtain ⟨v1, v2, v3⟩ : va 0 = rV 0 ∧ ic 0 = rK 0 ∧ cc_VK c (rK 0) (rV 0) := J.2.2.1 0 (by omega)
  refine ⟨nI 0, nI h, nI sc, nI c, nI ca, rK 0, nI e, nI 0, nI h, tP, tS, tD, rK, rV, mK, mV, cP, cS, me, mt, cl, wa, va, ic, fun _ => v1, fun P H => ?_, fun P H => ?_⟩
  · refine xl_nil (by omega) (xl_end hn ?_ H)
    rcases v3 with v3 | ⟨v3, _⟩
    · rw [v3]; decide
    · rw [v3]; decide
  · exact yl_nil hd hd6 v2 (v3.imp id (fun z => z.1)) H
end
theorem cc_run {m d : Nat} {pK pD pS pP pF stk yk yn : Nat → Int32} {sz rm : Nat → Nat} (hm : m ≤ 24) (hd : 0 < d) (hd6 : d ≤ 6) (hA : cc_Al m pK pD pS pP yk yn sz rm) : ∀ n : Nat, cc_G m d pK pD pS pP pF stk yk yn sz rm n := by
  intro n
  induction n with
  | zero => intro st T h e sc c ca ek ew tP tS tD rK rV mK mV cP cS me mt cl wa va ic J hM hs; omega
  | succ n G =>
    intro st T h e sc c ca ek ew tP tS tD rK rV mK mV cP cS me mt cl wa va ic J hM hs
    cases T with
    | nil => exact cs_nil hd J hd6 (by omega) (by omega)
    | cons x t =>
      obtain ⟨p, s, dd, l⟩ := x
      rw [List.length_cons]
      have hdk := (cc_J_top J).2.2.2.2.2.2.2.1
      obtain ⟨z1, z2, z3⟩ := hA p (cc_J_top J).1
      rcases z3 with ⟨h1, h2, h3, h4⟩ | ⟨h1, h2, h3, w, h4, h5, h6⟩ | ⟨h1, h2, w, f, b, h3, h4, h5, h6, h7, h8, h9, h10⟩ | ⟨h1, h2, a, b, c', h3, h4, h5, h6, h7, h8, h9, h10⟩ | ⟨h1, h2, w, a, b, h3, h4, h5, h6, h7, h8, h9, h10, h11⟩ | ⟨o, a, b, h3, h4, h5, h6, h7, h8, h9, h10, h11⟩
      · obtain rfl := cc_dk0 hdk (Or.inl h1)
        exact cs_number G hm J hM hs z1 h1 h2 h3
      · obtain rfl := cc_dk0 hdk (Or.inr (Or.inl h1))
        exact cs_name G hm J hM hs z1 h1 h2 h4 h5 h6
      · obtain rfl := cc_dk0 hdk (Or.inr (Or.inr h1))
        have := (hA b h5).1
        exact cs_function G hm J hM hs (by omega) h1 h2
      · have za := (hA a h3).1
        have zb := (hA b h4).1
        have zc := (hA c' h5).1
        rcases cc_dk1 hdk (Or.inl h1) with rfl | rfl
        · exact cs_next0 (nn := 1) G hm J hM hs h3 za (by omega) (by omega) (Or.inr (Or.inl ⟨rfl, Or.inl h1⟩)) (by omega) (by omega) (fun P hP => xx_parts1 (Or.inl h1) hP) (by rw [h2]; decide) (by rw [h2]; decide) (by rw [h2]; decide) h6
        · exact cs_choose G hm J hM hs h4 h5 zb zc h10 (by omega) h1 h2 h7 h8
      · have za := (hA a h4).1
        have zb := (hA b h5).1
        rcases cc_dk1 hdk (Or.inr h1) with rfl | rfl
        · exact cs_next0 (nn := 1) G hm J hM hs h4 za (by omega) (by omega) (Or.inr (Or.inl ⟨rfl, Or.inr (Or.inl h1)⟩)) (by omega) (by omega) (fun P hP => xx_parts1 (Or.inr h1) hP) (by rw [h2]; decide) (by rw [h2]; decide) (by rw [h2]; decide) h8
        · exact cs_bind G hm J hM hs h5 zb h11 (by omega) h3 h1 h2 h6 h7 h9
      · have za := (hA a h4).1
        have zb := (hA b h5).1
        obtain ⟨o5, o6, o7, o8, o9⟩ := cc_ko o h3
        rcases cc_dk2 hdk with rfl | rfl | rfl
        · exact cs_next0 (nn := 2) G hm J hM hs h4 za (by omega) (by omega) (Or.inr (Or.inl ⟨rfl, Or.inr (Or.inr ⟨o, h3, h6⟩)⟩)) (by omega) (by omega) (fun P hP => by rw [h6]; exact xx_parts2 h3 hP) (by rw [h7]; exact o7) (by rw [h7]; exact o8) (by rw [h7]; exact o9) h8
        · exact cs_next1 G hm J hM hs h5 zb h11 (by omega) h3 h6 h7 h9
        · by_cases ho : o = 4
          · subst ho
            exact cs_apply G hm hA J hM hs (by omega) h6 h7
          · exact cs_arith G hm J hM hs (by omega) (show o < 4 by omega) h6 h7
end
section
/-! the beginning of a run -/
theorem cc_J_init {m q : Nat} {pK : Nat → Int32} {sz rm : Nat → Nat} {tP tS tD rK rV mK mV cP cS me mt cl wa va ic : Nat → Int32} (hq : q < m) (h1 : 1 ≤ sz q) (h2 : sz q ≤ 24) :
    cc_J m pK sz rm [(q, 0, 0, 0)] 0 0 1 0 0 (fun _ _ => -1) (fun _ _ => 0) (upd tP 0 (nI q)) (upd tS 0 (nI 0)) (upd tD 0 0) rK rV (cc_fl mK (-1) 4) (cc_fl mV 0 4) cP cS me mt cl (upd wa 0 (nI ((32 * 0 + q) * 4 + 0))) va ic
    ∧ cc_M sz rm [(q, 0, 0, 0)] 0 0 ≤ 42180 := by
  have e1 : cc_sm (cc_c1 sz rm) [(q, 0, 0, 0)] = 30 * sz q + 0 := rfl
  have e2 : cc_sm (cc_c2 sz rm) [(q, 0, 0, 0)] = (sz q - 1) + 0 := rfl
  have hM : cc_sm (cc_c1 sz rm) [(q, 0, 0, 0)] + 59 * 0 + 691 * (60 - 0) ≤ 42180 := by omega
  refine ⟨⟨⟨⟨hq, ⟨Nat.zero_lt_one, Nat.le_refl 0, fun v hv => ⟨cc_fl_at 4 v hv, cc_fl_at 4 v hv⟩⟩, pk_us, pk_us, pk_us, pk_us, ?_, Or.inl rfl, Nat.one_ne_zero⟩, trivial⟩, fun i hi => absurd hi (Nat.not_lt_zero i), fun i hi => absurd hi (Nat.not_lt_zero i),
    ⟨fun _ _ => rfl, fun i hi => absurd hi (Nat.not_lt_zero i), fun _ _ _ _ => Or.inl rfl⟩, ⟨rfl, by omega, Nat.le_refl 1, by omega, hM⟩⟩, hM⟩
  show 2 * 0 + sz q ≤ 24 + 20 * 0
  omega
section
variable {mC sS tC rC sC cC kC en : Int32} {pK pD pS pP pF stk tP tS tD rK rV mK mV cP cS : Nat → Int32} {post : SX → Prop}
theorem xx_beginRun {d q : Nat} (hd : 0 < d) (hd6 : d ≤ 6) (hq : stk (d - 1) = nI q)
    (hp : post (mC, nI d, nI 1, nI 0, nI 1, nI 0, nI 0, -1, pK, pD, pS, pP, pF, stk, upd tP 0 (nI q), upd tS 0 (nI 0), upd tD 0 0, rK, rV, cc_fl mK (-1) 4, cc_fl mV 0 4, cP, cS)) : wpX_beginRun post (mC, nI d, tC, rC, sC, cC, kC, en, pK, pD, pS, pP, pF, stk, tP, tS, tD, rK, rV, mK, mV, cP, cS) := by
  have key : ∀ k v : Nat, v + k = 4 → wX_beginRun_32 post (k + 1) (nI v) mC (nI d) (nI 0) (nI 0) (nI 1) (nI 0) (nI 0) (-1) pK pD pS pP pF stk tP tS tD rK rV (cc_fl mK (-1) v) (cc_fl mV 0 v) cP cS := by
    intro k
    induction k with
    | zero =>
      intro v hv
      obtain rfl : v = 4 := by omega
      have e : nI d - 1 = nI (d - 1) := by
        obtain ⟨d, rfl⟩ : ∃ k, d = k + 1 := ⟨d - 1, by omega⟩
        rw [nI_pred]; rfl
      refine br_t (by decide) ?_
      rw [e, nI_clamp (by omega), hq]
      exact ⟨vp_in_nI (by omega) (by decide), xx_beginTask (t := 0) (by omega) hp⟩
    | succ k ih =>
      intro v hv
      exact br_f (nI_ge (b := 4) (by omega) (by decide)) (xx_setMeaning (s := 0) (by omega) (nm_r (nI_1 v) (ih (v + 1) (by omega))))
  exact ⟨5, key 4 0 rfl⟩
end
theorem cc_top {m d : Nat} {tC rC sC cC kC en li yc wt he yl ye : Int32} {pK pD pS pP pF stk tP tS tD rK rV mK mV cP cS yk yn me mt cl wa va ic : Nat → Int32} (h : cc_Sr m d pK pD pS pP yk yn stk) (hd : 0 < d) :
    cc_Fin m d pK pD pS pP pF stk yk yn (fun P => wpX_runTop P (nI m, nI d, tC, rC, sC, cC, kC, en, pK, pD, pS, pP, pF, stk, tP, tS, tD, rK, rV, mK, mV, cP, cS)) (fun P => wpY_work P (nI m, nI d, li, yc, wt, he, yl, ye, yk, pP, yn, pF, stk, me, mt, cl, wa, va, ic)) := by
  obtain ⟨h24, hd6, hq, sz, rm, hA, hss⟩ := h
  obtain ⟨q, hq1, hq2⟩ := hq (d - 1) (by omega)
  obtain ⟨z1, z2, z3⟩ := hA q hq1
  obtain ⟨J, hM⟩ := cc_J_init (pK := pK) (rm := rm) (tP := tP) (tS := tS) (tD := tD) (rK := rK) (rV := rV) (mK := mK) (mV := mV) (cP := cP) (cS := cS) (me := me) (mt := mt) (cl := cl) (wa := wa) (va := va) (ic := ic) hq1 z1 z2
  obtain ⟨N, hN⟩ : ∃ N : Nat, 50000 ≤ N := ⟨50000, Nat.le_refl _⟩
  refine cc_Fin_map (cc_run h24 hd hd6 hA N 0 J (by omega) (by omega)) (fun P H => ?_) (fun P H => ?_)
  · unfold wpX_runTop
    dsimp only
    exact xx_beginRun (tC := tC) (rC := rC) (sC := sC) (cC := cC) (kC := kC) (en := en) hd hd6 hq2 ⟨N, H⟩
  · have e : nI d - 1 = nI (d - 1) := by
      obtain ⟨d, rfl⟩ : ∃ k, d = k + 1 := ⟨d - 1, by omega⟩
      rw [nI_pred]; rfl
    unfold wpY_work
    dsimp only
    refine br_f (nI_nle hd (by omega)) ?_
    rw [e, nI_clamp (by omega), hq2]
    exact ⟨vp_in_nI (by omega) (by decide), yy_wait (t := 0) (dd := 0) (l := 0) (by omega) ⟨N, H⟩⟩
theorem yy_work0 {ym li yc wt he yl ye : Int32} {yk pP yn pF stk me mt cl wa va ic : Nat → Int32} {post : SY → Prop} (hp : post (ym, nI 0, 0, 0, 0, 0, 0, -4, yk, pP, yn, pF, stk, me, mt, cl, wa, va, ic)) : wpY_work post (ym, nI 0, li, yc, wt, he, yl, ye, yk, pP, yn, pF, stk, me, mt, cl, wa, va, ic) := by
  unfold wpY_work
  dsimp only
  exact br_t (by decide) ⟨1, br_t (by decide) (br_t (by decide) hp)⟩
end
section
/-! making programs -/
theorem cc_sub (b n : Nat) : nI (b + n) - nI n = nI b := by
  rw [pk_sub (Nat.le_add_left n b), Nat.add_sub_cancel]
def cc_fa (pF stk : Nat → Int32) (d i : Nat) : Int32 := if i < d then pF (stk (d - 1 - i)).toNatClampNeg else 0
theorem cc_fa_at {pF stk : Nat → Int32} {d i j q : Nat} (hi : i < d) (hj : d - 1 - i = j) (hq : q < 24) (e : stk j = nI q) : cc_fa pF stk d i = pF q := by
  unfold cc_fa
  rw [if_pos hi, hj, e, nI_clamp (by omega)]
theorem cc_ge (v : Int32) {n : Nat} (hn : n < 2 ^ 30) (h : nI (n + 1) ≤ v) : nI n < v := by
  rw [Int32.lt_iff_toInt_lt, nI_toInt (by omega)]
  rw [Int32.le_iff_toInt_le, nI_toInt (by omega)] at h
  omega
section
variable {mC sS tC rC sC cC kC en : Int32} {pK pD pS pP pF stk tP tS tD rK rV mK mV cP cS : Nat → Int32} {post : SX → Prop} {posr : Int32 → SX → Prop} {pos : Int32 → Prop}
theorem xf_part {m i q : Nat} (hm : m < 24) (hi : i < 3) (hq : q < 24) (e : pP (3 * m + i) = nI q) (hp : pos (pF q)) : wpX_freeNamesOfPart pos (mC, sS, tC, rC, sC, cC, kC, en, pK, pD, pS, pP, pF, stk, tP, tS, tD, rK, rV, mK, mV, cP, cS) (nI m) (nI i) := by
  have h1 : 3 * m + i < 2 ^ 31 := by omega
  have h2 : q < 2 ^ 31 := by omega
  have hv1 : vp_in (nI (3 * m + i)) 72 := vp_in_nI (by omega) (by decide)
  have hv2 : vp_in (nI q) 24 := vp_in_nI hq (by decide)
  simp only [wpX_freeNamesOfPart, cc_x3, nI_clamp h1, e, nI_clamp h2, hv1, hv2, true_and]
  exact hp
theorem xf_number {m : Nat} (hm : m < 24) (k : pK m = 5) (hp : pos 0) : wpX_findFreeNames pos (mC, sS, tC, rC, sC, cC, kC, en, pK, pD, pS, pP, pF, stk, tP, tS, tD, rK, rV, mK, mV, cP, cS) (nI m) := by
  have h1 : m < 2 ^ 31 := by omega
  have hv1 : vp_in (nI m) 24 := vp_in_nI hm (by decide)
  simp only [wpX_findFreeNames, forall_eq, nI_clamp h1, hv1, true_and]
  rw [k]
  exact br_f (by decide) (br_f (by decide) (br_t rfl hp))
theorem xf_name {m : Nat} {x : Int32} (hm : m < 24) (k : pK m = 6) (hx : pD m = x) (hp : pos ((1 : Int32) <<< (x &&& 31))) : wpX_findFreeNames pos (mC, sS, tC, rC, sC, cC, kC, en, pK, pD, pS, pP, pF, stk, tP, tS, tD, rK, rV, mK, mV, cP, cS) (nI m) := by
  have h1 : m < 2 ^ 31 := by omega
  have hv1 : vp_in (nI m) 24 := vp_in_nI hm (by decide)
  simp only [wpX_findFreeNames, forall_eq, nI_clamp h1, hv1, hx, true_and]
  rw [k]
  exact br_f (by decide) (br_f (by decide) (br_f (by decide) (br_t rfl hp)))
theorem xf_two {m o a b : Nat} (hm : m < 24) (ho : o < 5) (k : pK m = nI o) (ha : a < 24) (hb : b < 24) (ea : pP (3 * m) = nI a) (eb : pP (3 * m + 1) = nI b) (hp : pos (pF a ||| pF b)) : wpX_findFreeNames pos (mC, sS, tC, rC, sC, cC, kC, en, pK, pD, pS, pP, pF, stk, tP, tS, tD, rK, rV, mK, mV, cP, cS) (nI m) := by
  have h1 : m < 2 ^ 31 := by omega
  have hv1 : vp_in (nI m) 24 := vp_in_nI hm (by decide)
  simp only [wpX_findFreeNames, forall_eq, nI_clamp h1, hv1, true_and]
  rw [k]
  exact br_t (nI_lt (b := 5) ho (by decide)) (xf_part (i := 0) hm (by omega) ha ea (xf_part (i := 1) hm (by omega) hb eb hp))
theorem xf_choose {m a b c : Nat} (hm : m < 24) (k : pK m = 7) (ha : a < 24) (hb : b < 24) (hc : c < 24) (ea : pP (3 * m) = nI a) (eb : pP (3 * m + 1) = nI b) (ec : pP (3 * m + 2) = nI c) (hp : pos ((pF a ||| pF b) ||| pF c)) : wpX_findFreeNames pos (mC, sS, tC, rC, sC, cC, kC, en, pK, pD, pS, pP, pF, stk, tP, tS, tD, rK, rV, mK, mV, cP, cS) (nI m) := by
  have h1 : m < 2 ^ 31 := by omega
  have hv1 : vp_in (nI m) 24 := vp_in_nI hm (by decide)
  simp only [wpX_findFreeNames, forall_eq, nI_clamp h1, hv1, true_and]
  rw [k]
  exact br_f (by decide) (br_f (by decide) (br_f (by decide) (br_f (by decide) (br_t rfl (xf_part (i := 0) hm (by omega) ha ea (xf_part (i := 1) hm (by omega) hb eb (xf_part (i := 2) hm (by omega) hc ec hp)))))))
theorem xf_bind {m a b : Nat} {x : Int32} (hm : m < 24) (k : pK m = 8) (hx : pD m = x) (ha : a < 24) (hb : b < 24) (ea : pP (3 * m) = nI a) (eb : pP (3 * m + 1) = nI b) (hp : pos (pF a ||| (pF b &&& (((1 : Int32) <<< (x &&& 31)) ^^^ (-1))))) : wpX_findFreeNames pos (mC, sS, tC, rC, sC, cC, kC, en, pK, pD, pS, pP, pF, stk, tP, tS, tD, rK, rV, mK, mV, cP, cS) (nI m) := by
  have h1 : m < 2 ^ 31 := by omega
  have hv1 : vp_in (nI m) 24 := vp_in_nI hm (by decide)
  simp only [wpX_findFreeNames, forall_eq, nI_clamp h1, hv1, hx, true_and]
  rw [k]
  exact br_f (by decide) (br_f (by decide) (br_f (by decide) (br_f (by decide) (br_f (by decide) (br_t rfl (xf_part (i := 0) hm (by omega) ha ea (xf_part (i := 1) hm (by omega) hb eb hp)))))))
theorem xf_function {m a : Nat} {x y : Int32} (hm : m < 24) (k : pK m = 9) (hx : pD m = x) (hy : pS m = y) (ha : a < 24) (ea : pP (3 * m) = nI a) (hp : pos ((pF a &&& (((1 : Int32) <<< (x &&& 31)) ^^^ (-1))) &&& (((1 : Int32) <<< (y &&& 31)) ^^^ (-1)))) : wpX_findFreeNames pos (mC, sS, tC, rC, sC, cC, kC, en, pK, pD, pS, pP, pF, stk, tP, tS, tD, rK, rV, mK, mV, cP, cS) (nI m) := by
  have h1 : m < 2 ^ 31 := by omega
  have hv1 : vp_in (nI m) 24 := vp_in_nI hm (by decide)
  simp only [wpX_findFreeNames, forall_eq, nI_clamp h1, hv1, hx, hy, true_and]
  rw [k]
  exact br_f (by decide) (br_f (by decide) (br_f (by decide) (br_f (by decide) (br_f (by decide) (br_f (by decide) (br_t rfl (xf_part (i := 0) hm (by omega) ha ea hp)))))))
theorem xx_make {m b cnt : Nat} {k dt sf F : Int32} (hm : m < 24) (hc : cnt ≤ 3) (hb : b + cnt ≤ 6) (hb6 : b < 6)
    (hF : ∀ P : Int32 → Prop, P F → wpX_findFreeNames P (nI m, nI (b + cnt), tC, rC, sC, cC, kC, en, upd pK m k, upd pD m dt, upd pS m sf, cc_cp pP stk (3 * m) b cnt, pF, stk, tP, tS, tD, rK, rV, mK, mV, cP, cS) (nI m))
    (hp : posr (nI (b + 1)) (nI (m + 1), nI (b + 1), tC, rC, sC, cC, kC, en, upd pK m k, upd pD m dt, upd pS m sf, cc_cp pP stk (3 * m) b cnt, upd pF m F, upd stk b (nI m), tP, tS, tD, rK, rV, mK, mV, cP, cS)) :
    wpX_makeProgram posr (nI m, nI (b + cnt), tC, rC, sC, cC, kC, en, pK, pD, pS, pP, pF, stk, tP, tS, tD, rK, rV, mK, mV, cP, cS) k dt sf (nI cnt) := by
  have h1 : m < 2 ^ 31 := by omega
  have h2 : b < 2 ^ 31 := by omega
  have hv1 : vp_in (nI m) 24 := vp_in_nI hm (by decide)
  have hv2 : vp_in (nI b) 6 := vp_in_nI hb6 (by decide)
  have e1 : upd pF (nI m).toNatClampNeg F = upd pF m F := by rw [nI_clamp h1]
  have e2 : upd stk (nI b).toNatClampNeg (nI m) = upd stk b (nI m) := by rw [nI_clamp h2]
  have key : ∀ j i : Nat, i + j = cnt → wX_makeProgram_42 posr (nI cnt) (nI m) (nI b) (nI m) (nI (b + cnt)) tC rC sC cC kC en (j + 1) (nI i) (upd pK m k) (upd pD m dt) (upd pS m sf) (cc_cp pP stk (3 * m) b i) pF stk tP tS tD rK rV mK mV cP cS := by
    intro j
    induction j with
    | zero =>
      intro i hi
      obtain rfl : i = cnt := by omega
      exact br_t (nI_le (Nat.le_refl _) (by omega)) (hF _ ⟨hv1, nm_r e1 (nm_r (nI_1 m) ⟨hv2, nm_r e2 (nm_r (nI_1 b) hp)⟩)⟩)
    | succ j ih =>
      intro i hi
      have h3 : 3 * m + i < 2 ^ 31 := by omega
      have h4 : b + i < 2 ^ 31 := by omega
      have e3 : upd (cc_cp pP stk (3 * m) b i) (nI m * 3 + nI i).toNatClampNeg (stk (nI b + nI i).toNatClampNeg) = cc_cp pP stk (3 * m) b (i + 1) := by
        rw [cc_x3, nI_add, nI_clamp h3, nI_clamp h4]; rfl
      have hv3 : vp_in (nI b + nI i) 6 := by rw [nI_add]; exact vp_in_nI (by omega) (by decide)
      have hv4 : vp_in (nI m * 3 + nI i) 72 := by rw [cc_x3]; exact vp_in_nI (by omega) (by decide)
      exact br_f (nI_ge (by omega) (by omega)) ⟨hv3, hv4, nm_r e3 (nm_r (nI_1 i) (ih (i + 1) (by omega)))⟩
  simp only [wpX_makeProgram, forall_eq, nI_clamp h1, cc_sub, hv1, true_and]
  exact ⟨cnt + 1, key cnt 0 (by omega)⟩
theorem xx_combine_full {m : Nat} {k dt sf n : Int32} (hm : m = 24) (hp : posr (-2) (nI m, sS, tC, rC, sC, cC, kC, en, pK, pD, pS, pP, pF, stk, tP, tS, tD, rK, rV, mK, mV, cP, cS)) : wpX_combine posr (nI m, sS, tC, rC, sC, cC, kC, en, pK, pD, pS, pP, pF, stk, tP, tS, tD, rK, rV, mK, mV, cP, cS) k dt sf n := by
  unfold wpX_combine
  dsimp only
  exact br_f (by rw [hm]; decide) hp
theorem xx_combine_few {m d cnt : Nat} {k dt sf : Int32} (hm : m < 24) (hd : d < cnt) (hc : cnt ≤ 3) (hp : posr (-3) (nI m, nI d, tC, rC, sC, cC, kC, en, pK, pD, pS, pP, pF, stk, tP, tS, tD, rK, rV, mK, mV, cP, cS)) : wpX_combine posr (nI m, nI d, tC, rC, sC, cC, kC, en, pK, pD, pS, pP, pF, stk, tP, tS, tD, rK, rV, mK, mV, cP, cS) k dt sf (nI cnt) := by
  unfold wpX_combine
  dsimp only
  exact br_t (nI_lt (b := 24) hm (by decide)) (br_f (nI_ge hd (by omega)) hp)
theorem xx_combine_ok {m b cnt : Nat} {k dt sf F : Int32} (hm : m < 24) (hc : cnt ≤ 3) (hb : b + cnt ≤ 6) (hb6 : b < 6)
    (hF : ∀ P : Int32 → Prop, P F → wpX_findFreeNames P (nI m, nI (b + cnt), tC, rC, sC, cC, kC, en, upd pK m k, upd pD m dt, upd pS m sf, cc_cp pP stk (3 * m) b cnt, pF, stk, tP, tS, tD, rK, rV, mK, mV, cP, cS) (nI m))
    (hp : posr (nI (b + 1)) (nI (m + 1), nI (b + 1), tC, rC, sC, cC, kC, en, upd pK m k, upd pD m dt, upd pS m sf, cc_cp pP stk (3 * m) b cnt, upd pF m F, upd stk b (nI m), tP, tS, tD, rK, rV, mK, mV, cP, cS)) :
    wpX_combine posr (nI m, nI (b + cnt), tC, rC, sC, cC, kC, en, pK, pD, pS, pP, pF, stk, tP, tS, tD, rK, rV, mK, mV, cP, cS) k dt sf (nI cnt) := by
  unfold wpX_combine
  dsimp only
  exact br_t (nI_lt (b := 24) hm (by decide)) (br_t (nI_le (by omega) (by omega)) (xx_make hm hc hb hb6 hF hp))
theorem xx_isName0 {x : Int32} (h : x < 0 ∨ nI 4 ≤ x) (hp : pos 0) : wpX_isName pos x := by
  exact br_c (fun _ => hp) (fun z => br_t (h.resolve_left z) hp)
theorem xx_isName1 {w : Nat} (h : w < 4) (hp : pos 1) : wpX_isName pos (nI w) := by
  exact br_f (nI_pos (by omega)) (br_f (nI_ge (b := 4) h (by decide)) hp)
end
section
variable {ym yd li yc wt he yl ye : Int32} {yk pP yn pF stk me mt cl wa va ic : Nat → Int32} {post : SY → Prop} {posr : Int32 → SY → Prop} {pos : Int32 → Prop}
theorem yy_note {m b cnt : Nat} {k nt F : Int32} (hm : m < 24) (hc : cnt ≤ 3) (hb : b + cnt ≤ 6) (hb6 : b < 6)
    (hp : posr (nI (b + 1)) (nI (m + 1), nI (b + 1), li, yc, wt, he, yl, ye, upd yk m k, cc_cp pP stk (3 * m) b cnt, upd yn m nt, upd pF m F, upd stk b (nI m), me, mt, cl, wa, va, ic)) :
    wpY_note posr (nI m, nI (b + cnt), li, yc, wt, he, yl, ye, yk, pP, yn, pF, stk, me, mt, cl, wa, va, ic) k (nI cnt) nt F := by
  have h1 : m < 2 ^ 31 := by omega
  have h2 : b < 2 ^ 31 := by omega
  have hv1 : vp_in (nI m) 24 := vp_in_nI hm (by decide)
  have hv2 : vp_in (nI b) 6 := vp_in_nI hb6 (by decide)
  have e1 : upd yk (nI m).toNatClampNeg k = upd yk m k := by rw [nI_clamp h1]
  have e2 : upd yn (nI m).toNatClampNeg nt = upd yn m nt := by rw [nI_clamp h1]
  have e3 : upd pF (nI m).toNatClampNeg F = upd pF m F := by rw [nI_clamp h1]
  have e4 : upd stk (nI b).toNatClampNeg (nI m) = upd stk b (nI m) := by rw [nI_clamp h2]
  have key : ∀ j i : Nat, i + j = cnt → wY_note_13 posr k (nI cnt) nt F (nI m) (nI b) li yc wt he yl ye (j + 1) (nI i) yk (cc_cp pP stk (3 * m) b i) yn pF stk me mt cl wa va ic := by
    intro j
    induction j with
    | zero =>
      intro i hi
      obtain rfl : i = cnt := by omega
      exact br_t (nI_le (Nat.le_refl _) (by omega)) ⟨hv1, nm_r e1 ⟨hv1, nm_r e2 ⟨hv1, nm_r e3 ⟨hv2, nm_r e4 (nm_r (nI_1 m) (nm_r (nI_1 b) hp))⟩⟩⟩⟩
    | succ j ih =>
      intro i hi
      have h3 : 3 * m + i < 2 ^ 31 := by omega
      have h4 : b + i < 2 ^ 31 := by omega
      have e5 : upd (cc_cp pP stk (3 * m) b i) (3 * nI m + nI i).toNatClampNeg (stk (nI b + nI i).toNatClampNeg) = cc_cp pP stk (3 * m) b (i + 1) := by
        rw [cc_y3, nI_add, nI_clamp h3, nI_clamp h4]; rfl
      have hv3 : vp_in (nI b + nI i) 6 := by rw [nI_add]; exact vp_in_nI (by omega) (by decide)
      have hv4 : vp_in (3 * nI m + nI i) 72 := by rw [cc_y3]; exact vp_in_nI (by omega) (by decide)
      exact br_f (nI_ge (by omega) (by omega)) ⟨hv3, hv4, nm_r e5 (nm_r (nI_1 i) (ih (i + 1) (by omega)))⟩
  simp only [wpY_note, forall_eq, cc_sub]
  exact ⟨cnt + 1, key cnt 0 (by omega)⟩
theorem yy_freeAt {d i : Nat} (hd : d ≤ 6) (hi3 : i < 3) (hS : ∀ j, j < d → ∃ q, q < 24 ∧ stk j = nI q) (hp : pos (cc_fa pF stk d i)) : wpY_freeAt pos (ym, nI d, li, yc, wt, he, yl, ye, yk, pP, yn, pF, stk, me, mt, cl, wa, va, ic) (nI i) := by
  unfold wpY_freeAt
  dsimp only
  unfold cc_fa at hp
  by_cases hi : i < d
  · obtain ⟨q, hq, e⟩ := hS (d - 1 - i) (by omega)
    have e0 : nI d - 1 - nI i = nI (d - 1 - i) := by
      rw [show nI d - 1 = nI (d - 1) from pk_sub (a := d) (b := 1) (by omega), pk_sub (by omega)]
    rw [if_pos hi, e, nI_clamp (by omega)] at hp
    rw [e0, nI_clamp (by omega), e, nI_clamp (by omega)]
    exact br_f (nI_ge hi (by omega)) ⟨vp_in_nI (by omega) (by decide), vp_in_nI hq (by decide), hp⟩
  · rw [if_neg hi] at hp
    exact br_t (nI_le (by omega) (by omega)) hp
theorem yy_leaf_full {m d : Nat} {k nt F : Int32} (h : m = 24 ∨ d = 6) (hp : posr (-2) (nI m, nI d, li, yc, wt, he, yl, ye, yk, pP, yn, pF, stk, me, mt, cl, wa, va, ic)) : wpY_leaf posr (nI m, nI d, li, yc, wt, he, yl, ye, yk, pP, yn, pF, stk, me, mt, cl, wa, va, ic) k nt F := by
  unfold wpY_leaf
  dsimp only
  rcases h with h | h
  · exact br_t (by rw [h]; decide) hp
  · exact br_c (fun _ => hp) (fun _ => br_t (by rw [h]; decide) hp)
theorem yy_leaf_ok {m d : Nat} {k nt F : Int32} (hm : m < 24) (hd : d < 6)
    (hp : posr (nI (d + 1)) (nI (m + 1), nI (d + 1), li, yc, wt, he, yl, ye, upd yk m k, pP, upd yn m nt, upd pF m F, upd stk d (nI m), me, mt, cl, wa, va, ic)) : wpY_leaf posr (nI m, nI d, li, yc, wt, he, yl, ye, yk, pP, yn, pF, stk, me, mt, cl, wa, va, ic) k nt F := by
  unfold wpY_leaf
  dsimp only
  exact br_f (fun z => absurd ((nI_eq (b := 24) (by omega) (by omega)).mp z) (by omega)) (br_f (fun z => absurd ((nI_eq (b := 6) (by omega) (by omega)).mp z) (by omega)) (yy_note (cnt := 0) (b := d) hm (by omega) (by omega) hd hp))
theorem yy_make_full {m : Nat} {k n nt F : Int32} (h : m = 24) (hp : posr (-2) (nI m, yd, li, yc, wt, he, yl, ye, yk, pP, yn, pF, stk, me, mt, cl, wa, va, ic)) : wpY_make posr (nI m, yd, li, yc, wt, he, yl, ye, yk, pP, yn, pF, stk, me, mt, cl, wa, va, ic) k n nt F := by
  unfold wpY_make
  dsimp only
  exact br_t (by rw [h]; decide) hp
theorem yy_make_few {m d cnt : Nat} {k nt F : Int32} (hm : m < 24) (hd : d < cnt) (hc : cnt ≤ 3) (hp : posr (-3) (nI m, nI d, li, yc, wt, he, yl, ye, yk, pP, yn, pF, stk, me, mt, cl, wa, va, ic)) : wpY_make posr (nI m, nI d, li, yc, wt, he, yl, ye, yk, pP, yn, pF, stk, me, mt, cl, wa, va, ic) k (nI cnt) nt F := by
  unfold wpY_make
  dsimp only
  exact br_f (fun z => absurd ((nI_eq (b := 24) (by omega) (by omega)).mp z) (by omega)) (br_f (nI_ge hd (by omega)) hp)
theorem yy_make_ok {m b cnt : Nat} {k nt F : Int32} (hm : m < 24) (hc : cnt ≤ 3) (hb : b + cnt ≤ 6) (hb6 : b < 6)
    (hp : posr (nI (b + 1)) (nI (m + 1), nI (b + 1), li, yc, wt, he, yl, ye, upd yk m k, cc_cp pP stk (3 * m) b cnt, upd yn m nt, upd pF m F, upd stk b (nI m), me, mt, cl, wa, va, ic)) :
    wpY_make posr (nI m, nI (b + cnt), li, yc, wt, he, yl, ye, yk, pP, yn, pF, stk, me, mt, cl, wa, va, ic) k (nI cnt) nt F := by
  unfold wpY_make
  dsimp only
  exact br_f (fun z => absurd ((nI_eq (b := 24) (by omega) (by omega)).mp z) (by omega)) (br_t (nI_le (by omega) (by omega)) (yy_note hm hc hb hb6 hp))
theorem yy_isName0 {x : Int32} (h : x < 0 ∨ nI 4 ≤ x) (hp : pos 0) : wpY_isName pos (ym, yd, li, yc, wt, he, yl, ye, yk, pP, yn, pF, stk, me, mt, cl, wa, va, ic) x := by
  unfold wpY_isName
  dsimp only
  exact br_c (fun _ => hp) (fun z => br_t (cc_ge x (n := 3) (by decide) (h.resolve_left z)) hp)
theorem yy_isName1 {w : Nat} (h : w < 4) (hp : pos 1) : wpY_isName pos (ym, yd, li, yc, wt, he, yl, ye, yk, pP, yn, pF, stk, me, mt, cl, wa, va, ic) (nI w) := by
  unfold wpY_isName
  dsimp only
  exact br_f (nI_pos (by omega)) (br_f (nI_nlt (a := 3) (by omega) (by decide)) hp)
end
end
section
/-! the making calls, case by case -/
section
variable {m d : Nat} {tC rC sC cC kC en : Int32} {pK pD pS pP pF stk tP tS tD rK rV mK mV cP cS : Nat → Int32} {posr : Int32 → SX → Prop}
theorem xo_number_bad {x : Int32} (h : x < -9 ∨ ¬ x ≤ 9) (hp : posr (-1) (nI m, nI d, tC, rC, sC, cC, kC, en, pK, pD, pS, pP, pF, stk, tP, tS, tD, rK, rV, mK, mV, cP, cS)) : wpX_number posr (nI m, nI d, tC, rC, sC, cC, kC, en, pK, pD, pS, pP, pF, stk, tP, tS, tD, rK, rV, mK, mV, cP, cS) x := by
  unfold wpX_number
  dsimp only
  exact br_c (fun _ => hp) (fun z => br_f (h.resolve_left z) hp)
theorem xo_number_full {x : Int32} (h1 : ¬ x < -9) (h2 : x ≤ 9) (h : m = 24 ∨ d = 6) (hp : posr (-2) (nI m, nI d, tC, rC, sC, cC, kC, en, pK, pD, pS, pP, pF, stk, tP, tS, tD, rK, rV, mK, mV, cP, cS)) : wpX_number posr (nI m, nI d, tC, rC, sC, cC, kC, en, pK, pD, pS, pP, pF, stk, tP, tS, tD, rK, rV, mK, mV, cP, cS) x := by
  unfold wpX_number
  dsimp only
  refine br_f h1 (br_t h2 ?_)
  rcases h with h | h
  · exact br_t (by rw [h]; decide) hp
  · exact br_c (fun _ => hp) (fun _ => br_f (by rw [h]; decide) hp)
theorem xo_number_ok {x : Int32} (h1 : ¬ x < -9) (h2 : x ≤ 9) (hm : m < 24) (hd : d < 6)
    (hp : posr (nI (d + 1)) (nI (m + 1), nI (d + 1), tC, rC, sC, cC, kC, en, upd pK m 5, upd pD m x, upd pS m 0, pP, upd pF m 0, upd stk d (nI m), tP, tS, tD, rK, rV, mK, mV, cP, cS)) : wpX_number posr (nI m, nI d, tC, rC, sC, cC, kC, en, pK, pD, pS, pP, pF, stk, tP, tS, tD, rK, rV, mK, mV, cP, cS) x := by
  unfold wpX_number
  dsimp only
  exact br_f h1 (br_t h2 (br_f (nI_ge (b := 24) hm (by decide)) (br_t (nI_lt (b := 6) hd (by decide)) (xx_make (cnt := 0) (b := d) hm (by omega) (by omega) hd (fun P hP => xf_number hm pk_us hP) hp))))
theorem xo_name_bad {x : Int32} (h : x < 0 ∨ nI 4 ≤ x) (hp : posr (-1) (nI m, nI d, tC, rC, sC, cC, kC, en, pK, pD, pS, pP, pF, stk, tP, tS, tD, rK, rV, mK, mV, cP, cS)) : wpX_name posr (nI m, nI d, tC, rC, sC, cC, kC, en, pK, pD, pS, pP, pF, stk, tP, tS, tD, rK, rV, mK, mV, cP, cS) x := by
  unfold wpX_name
  dsimp only
  exact xx_isName0 h (br_t rfl hp)
theorem xo_name_full {w : Nat} (hw : w < 4) (h : m = 24 ∨ d = 6) (hp : posr (-2) (nI m, nI d, tC, rC, sC, cC, kC, en, pK, pD, pS, pP, pF, stk, tP, tS, tD, rK, rV, mK, mV, cP, cS)) : wpX_name posr (nI m, nI d, tC, rC, sC, cC, kC, en, pK, pD, pS, pP, pF, stk, tP, tS, tD, rK, rV, mK, mV, cP, cS) (nI w) := by
  unfold wpX_name
  dsimp only
  refine xx_isName1 hw (br_f (by decide) ?_)
  rcases h with h | h
  · exact br_t (by rw [h]; decide) hp
  · exact br_c (fun _ => hp) (fun _ => br_f (by rw [h]; decide) hp)
theorem xo_name_ok {w : Nat} (hw : w < 4) (hm : m < 24) (hd : d < 6)
    (hp : posr (nI (d + 1)) (nI (m + 1), nI (d + 1), tC, rC, sC, cC, kC, en, upd pK m 6, upd pD m (nI w), upd pS m 0, pP, upd pF m ((1 : Int32) <<< (nI w &&& 31)), upd stk d (nI m), tP, tS, tD, rK, rV, mK, mV, cP, cS)) : wpX_name posr (nI m, nI d, tC, rC, sC, cC, kC, en, pK, pD, pS, pP, pF, stk, tP, tS, tD, rK, rV, mK, mV, cP, cS) (nI w) := by
  unfold wpX_name
  dsimp only
  exact xx_isName1 hw (br_f (by decide) (br_f (nI_ge (b := 24) hm (by decide)) (br_t (nI_lt (b := 6) hd (by decide)) (xx_make (cnt := 0) (b := d) hm (by omega) (by omega) hd (fun P hP => xf_name hm pk_us pk_us hP) hp))))
theorem xo_two_bad {x : Int32} (h : x < 0 ∨ ¬ x ≤ 4) (hp : posr (-1) (nI m, nI d, tC, rC, sC, cC, kC, en, pK, pD, pS, pP, pF, stk, tP, tS, tD, rK, rV, mK, mV, cP, cS)) : wpX_two posr (nI m, nI d, tC, rC, sC, cC, kC, en, pK, pD, pS, pP, pF, stk, tP, tS, tD, rK, rV, mK, mV, cP, cS) x := by
  unfold wpX_two
  dsimp only
  exact br_c (fun _ => hp) (fun z => br_f (h.resolve_left z) hp)
theorem xo_two_full {o : Nat} (ho : o < 5) (h : m = 24) (hp : posr (-2) (nI m, nI d, tC, rC, sC, cC, kC, en, pK, pD, pS, pP, pF, stk, tP, tS, tD, rK, rV, mK, mV, cP, cS)) : wpX_two posr (nI m, nI d, tC, rC, sC, cC, kC, en, pK, pD, pS, pP, pF, stk, tP, tS, tD, rK, rV, mK, mV, cP, cS) (nI o) := by
  unfold wpX_two
  dsimp only
  exact br_f (nI_pos (by omega)) (br_t (nI_le (b := 4) (by omega) (by decide)) (xx_combine_full h hp))
theorem xo_two_few {o : Nat} (ho : o < 5) (hm : m < 24) (h : d < 2) (hp : posr (-3) (nI m, nI d, tC, rC, sC, cC, kC, en, pK, pD, pS, pP, pF, stk, tP, tS, tD, rK, rV, mK, mV, cP, cS)) : wpX_two posr (nI m, nI d, tC, rC, sC, cC, kC, en, pK, pD, pS, pP, pF, stk, tP, tS, tD, rK, rV, mK, mV, cP, cS) (nI o) := by
  unfold wpX_two
  dsimp only
  exact br_f (nI_pos (by omega)) (br_t (nI_le (b := 4) (by omega) (by decide)) (xx_combine_few (cnt := 2) hm h (by omega) hp))
theorem xo_choose_full  (h : m = 24) (hp : posr (-2) (nI m, nI d, tC, rC, sC, cC, kC, en, pK, pD, pS, pP, pF, stk, tP, tS, tD, rK, rV, mK, mV, cP, cS)) : wpX_choose posr (nI m, nI d, tC, rC, sC, cC, kC, en, pK, pD, pS, pP, pF, stk, tP, tS, tD, rK, rV, mK, mV, cP, cS)  := by
  unfold wpX_choose
  dsimp only
  exact xx_combine_full h hp
theorem xo_choose_few  (hm : m < 24) (h : d < 3) (hp : posr (-3) (nI m, nI d, tC, rC, sC, cC, kC, en, pK, pD, pS, pP, pF, stk, tP, tS, tD, rK, rV, mK, mV, cP, cS)) : wpX_choose posr (nI m, nI d, tC, rC, sC, cC, kC, en, pK, pD, pS, pP, pF, stk, tP, tS, tD, rK, rV, mK, mV, cP, cS)  := by
  unfold wpX_choose
  dsimp only
  exact xx_combine_few (cnt := 3) hm h (by omega) hp
theorem xo_bind_full {w : Nat} (hw : w < 4) (h : m = 24) (hp : posr (-2) (nI m, nI d, tC, rC, sC, cC, kC, en, pK, pD, pS, pP, pF, stk, tP, tS, tD, rK, rV, mK, mV, cP, cS)) : wpX_bind posr (nI m, nI d, tC, rC, sC, cC, kC, en, pK, pD, pS, pP, pF, stk, tP, tS, tD, rK, rV, mK, mV, cP, cS) (nI w) := by
  unfold wpX_bind
  dsimp only
  exact xx_isName1 hw (br_f (by decide) (xx_combine_full h hp))
theorem xo_bind_few {w : Nat} (hw : w < 4) (hm : m < 24) (h : d < 2) (hp : posr (-3) (nI m, nI d, tC, rC, sC, cC, kC, en, pK, pD, pS, pP, pF, stk, tP, tS, tD, rK, rV, mK, mV, cP, cS)) : wpX_bind posr (nI m, nI d, tC, rC, sC, cC, kC, en, pK, pD, pS, pP, pF, stk, tP, tS, tD, rK, rV, mK, mV, cP, cS) (nI w) := by
  unfold wpX_bind
  dsimp only
  exact xx_isName1 hw (br_f (by decide) (xx_combine_few (cnt := 2) hm h (by omega) hp))
theorem xo_function_full {f w : Nat} (hf : f < 4) (hw : w < 4) (h : m = 24) (hp : posr (-2) (nI m, nI d, tC, rC, sC, cC, kC, en, pK, pD, pS, pP, pF, stk, tP, tS, tD, rK, rV, mK, mV, cP, cS)) : wpX_function posr (nI m, nI d, tC, rC, sC, cC, kC, en, pK, pD, pS, pP, pF, stk, tP, tS, tD, rK, rV, mK, mV, cP, cS) (nI f) (nI w) := by
  unfold wpX_function
  dsimp only
  exact xx_isName1 hf (br_f (by decide) (xx_isName1 hw (br_f (by decide) (xx_combine_full h hp))))
theorem xo_function_few {f w : Nat} (hf : f < 4) (hw : w < 4) (hm : m < 24) (h : d < 1) (hp : posr (-3) (nI m, nI d, tC, rC, sC, cC, kC, en, pK, pD, pS, pP, pF, stk, tP, tS, tD, rK, rV, mK, mV, cP, cS)) : wpX_function posr (nI m, nI d, tC, rC, sC, cC, kC, en, pK, pD, pS, pP, pF, stk, tP, tS, tD, rK, rV, mK, mV, cP, cS) (nI f) (nI w) := by
  unfold wpX_function
  dsimp only
  exact xx_isName1 hf (br_f (by decide) (xx_isName1 hw (br_f (by decide) (xx_combine_few (cnt := 1) hm h (by omega) hp))))
theorem xo_two_ok {o : Nat} (ho : o < 5) {g a b : Nat} (hm : m < 24) (hg : g + 2 ≤ 6) (ha : a < 24) (hb : b < 24) (ea : stk g = nI a) (eb : stk (g + 1) = nI b)
    (hp : posr (nI (g + 1)) (nI (m + 1), nI (g + 1), tC, rC, sC, cC, kC, en, upd pK m (nI o), upd pD m 0, upd pS m 0, cc_cp pP stk (3 * m) g 2, upd pF m (pF a ||| pF b), upd stk g (nI m), tP, tS, tD, rK, rV, mK, mV, cP, cS)) : wpX_two posr (nI m, nI (g + 2), tC, rC, sC, cC, kC, en, pK, pD, pS, pP, pF, stk, tP, tS, tD, rK, rV, mK, mV, cP, cS) (nI o) := by
  unfold wpX_two
  dsimp only
  exact br_f (nI_pos (by omega)) (br_t (nI_le (b := 4) (by omega) (by decide)) (xx_combine_ok (cnt := 2) hm (by omega) hg (by omega) (fun P hP => xf_two hm ho pk_us ha hb ((cc_cp_at 2 0 (by omega)).trans ea) ((cc_cp_at 2 1 (by omega)).trans eb) hP) hp))
theorem xo_choose_ok  {g a b c : Nat} (hm : m < 24) (hg : g + 3 ≤ 6) (ha : a < 24) (hb : b < 24) (hc : c < 24) (ea : stk g = nI a) (eb : stk (g + 1) = nI b) (ec : stk (g + 2) = nI c)
    (hp : posr (nI (g + 1)) (nI (m + 1), nI (g + 1), tC, rC, sC, cC, kC, en, upd pK m 7, upd pD m 0, upd pS m 0, cc_cp pP stk (3 * m) g 3, upd pF m ((pF a ||| pF b) ||| pF c), upd stk g (nI m), tP, tS, tD, rK, rV, mK, mV, cP, cS)) : wpX_choose posr (nI m, nI (g + 3), tC, rC, sC, cC, kC, en, pK, pD, pS, pP, pF, stk, tP, tS, tD, rK, rV, mK, mV, cP, cS)  := by
  unfold wpX_choose
  dsimp only
  exact xx_combine_ok (cnt := 3) hm (by omega) hg (by omega) (fun P hP => xf_choose hm pk_us ha hb hc ((cc_cp_at 3 0 (by omega)).trans ea) ((cc_cp_at 3 1 (by omega)).trans eb) ((cc_cp_at 3 2 (by omega)).trans ec) hP) hp
theorem xo_bind_ok {w : Nat} (hw : w < 4) {g a b : Nat} (hm : m < 24) (hg : g + 2 ≤ 6) (ha : a < 24) (hb : b < 24) (ea : stk g = nI a) (eb : stk (g + 1) = nI b)
    (hp : posr (nI (g + 1)) (nI (m + 1), nI (g + 1), tC, rC, sC, cC, kC, en, upd pK m 8, upd pD m (nI w), upd pS m 0, cc_cp pP stk (3 * m) g 2, upd pF m (pF a ||| (pF b &&& (((1 : Int32) <<< (nI w &&& 31)) ^^^ (-1)))), upd stk g (nI m), tP, tS, tD, rK, rV, mK, mV, cP, cS)) : wpX_bind posr (nI m, nI (g + 2), tC, rC, sC, cC, kC, en, pK, pD, pS, pP, pF, stk, tP, tS, tD, rK, rV, mK, mV, cP, cS) (nI w) := by
  unfold wpX_bind
  dsimp only
  exact xx_isName1 hw (br_f (by decide) (xx_combine_ok (cnt := 2) hm (by omega) hg (by omega) (fun P hP => xf_bind hm pk_us pk_us ha hb ((cc_cp_at 2 0 (by omega)).trans ea) ((cc_cp_at 2 1 (by omega)).trans eb) hP) hp))
theorem xo_function_ok {f w : Nat} (hf : f < 4) (hw : w < 4) {g a : Nat} (hm : m < 24) (hg : g + 1 ≤ 6) (ha : a < 24) (ea : stk g = nI a)
    (hp : posr (nI (g + 1)) (nI (m + 1), nI (g + 1), tC, rC, sC, cC, kC, en, upd pK m 9, upd pD m (nI w), upd pS m (nI f), cc_cp pP stk (3 * m) g 1, upd pF m ((pF a &&& (((1 : Int32) <<< (nI w &&& 31)) ^^^ (-1))) &&& (((1 : Int32) <<< (nI f &&& 31)) ^^^ (-1))), upd stk g (nI m), tP, tS, tD, rK, rV, mK, mV, cP, cS)) : wpX_function posr (nI m, nI (g + 1), tC, rC, sC, cC, kC, en, pK, pD, pS, pP, pF, stk, tP, tS, tD, rK, rV, mK, mV, cP, cS) (nI f) (nI w) := by
  unfold wpX_function
  dsimp only
  exact xx_isName1 hf (br_f (by decide) (xx_isName1 hw (br_f (by decide) (xx_combine_ok (cnt := 1) hm (by omega) hg (by omega) (fun P hP => xf_function hm pk_us pk_us pk_us ha ((cc_cp_at 1 0 (by omega)).trans ea) hP) hp))))
theorem xo_bind_bad {x : Int32} (h : x < 0 ∨ nI 4 ≤ x) (hp : posr (-1) (nI m, nI d, tC, rC, sC, cC, kC, en, pK, pD, pS, pP, pF, stk, tP, tS, tD, rK, rV, mK, mV, cP, cS)) : wpX_bind posr (nI m, nI d, tC, rC, sC, cC, kC, en, pK, pD, pS, pP, pF, stk, tP, tS, tD, rK, rV, mK, mV, cP, cS) x := by
  unfold wpX_bind
  dsimp only
  exact xx_isName0 h (br_t rfl hp)
theorem xo_function_bad {x y : Int32} (h : x < 0 ∨ nI 4 ≤ x) (hp : posr (-1) (nI m, nI d, tC, rC, sC, cC, kC, en, pK, pD, pS, pP, pF, stk, tP, tS, tD, rK, rV, mK, mV, cP, cS)) : wpX_function posr (nI m, nI d, tC, rC, sC, cC, kC, en, pK, pD, pS, pP, pF, stk, tP, tS, tD, rK, rV, mK, mV, cP, cS) x y := by
  unfold wpX_function
  dsimp only
  exact xx_isName0 h (br_t rfl hp)
theorem xo_function_bad2 {f : Nat} {y : Int32} (hf : f < 4) (h : y < 0 ∨ nI 4 ≤ y) (hp : posr (-1) (nI m, nI d, tC, rC, sC, cC, kC, en, pK, pD, pS, pP, pF, stk, tP, tS, tD, rK, rV, mK, mV, cP, cS)) : wpX_function posr (nI m, nI d, tC, rC, sC, cC, kC, en, pK, pD, pS, pP, pF, stk, tP, tS, tD, rK, rV, mK, mV, cP, cS) (nI f) y := by
  unfold wpX_function
  dsimp only
  exact xx_isName1 hf (br_f (by decide) (xx_isName0 h (br_t rfl hp)))
end
section
variable {m d : Nat} {li yc wt he yl ye : Int32} {yk pP yn pF stk me mt cl wa va ic : Nat → Int32} {posr : Int32 → SY → Prop}
theorem yo_number_bad {x : Int32} (h : x < -9 ∨ ¬ x ≤ 9) (hp : posr (-1) (nI m, nI d, li, yc, wt, he, yl, ye, yk, pP, yn, pF, stk, me, mt, cl, wa, va, ic)) : wpY_number posr (nI m, nI d, li, yc, wt, he, yl, ye, yk, pP, yn, pF, stk, me, mt, cl, wa, va, ic) x := by
  unfold wpY_number
  dsimp only
  exact br_c (fun _ => hp) (fun z => br_f (h.resolve_left z) hp)
theorem yo_number_full {x : Int32} (h1 : ¬ x < -9) (h2 : x ≤ 9) (h : m = 24 ∨ d = 6) (hp : posr (-2) (nI m, nI d, li, yc, wt, he, yl, ye, yk, pP, yn, pF, stk, me, mt, cl, wa, va, ic)) : wpY_number posr (nI m, nI d, li, yc, wt, he, yl, ye, yk, pP, yn, pF, stk, me, mt, cl, wa, va, ic) x := by
  unfold wpY_number
  dsimp only
  exact br_f h1 (br_t h2 (yy_leaf_full h hp))
theorem yo_number_ok {x : Int32} (h1 : ¬ x < -9) (h2 : x ≤ 9) (hm : m < 24) (hd : d < 6)
    (hp : posr (nI (d + 1)) (nI (m + 1), nI (d + 1), li, yc, wt, he, yl, ye, upd yk m 8, pP, upd yn m x, upd pF m 0, upd stk d (nI m), me, mt, cl, wa, va, ic)) : wpY_number posr (nI m, nI d, li, yc, wt, he, yl, ye, yk, pP, yn, pF, stk, me, mt, cl, wa, va, ic) x := by
  unfold wpY_number
  dsimp only
  exact br_f h1 (br_t h2 (yy_leaf_ok hm hd hp))
theorem yo_name_bad {x : Int32} (h : x < 0 ∨ nI 4 ≤ x) (hp : posr (-1) (nI m, nI d, li, yc, wt, he, yl, ye, yk, pP, yn, pF, stk, me, mt, cl, wa, va, ic)) : wpY_name posr (nI m, nI d, li, yc, wt, he, yl, ye, yk, pP, yn, pF, stk, me, mt, cl, wa, va, ic) x := by
  unfold wpY_name
  dsimp only
  exact yy_isName0 h (br_t rfl hp)
theorem yo_name_full {w : Nat} (hw : w < 4) (h : m = 24 ∨ d = 6) (hp : posr (-2) (nI m, nI d, li, yc, wt, he, yl, ye, yk, pP, yn, pF, stk, me, mt, cl, wa, va, ic)) : wpY_name posr (nI m, nI d, li, yc, wt, he, yl, ye, yk, pP, yn, pF, stk, me, mt, cl, wa, va, ic) (nI w) := by
  unfold wpY_name
  dsimp only
  exact yy_isName1 hw (br_f (by decide) (yy_leaf_full h hp))
theorem yo_name_ok {w : Nat} (hw : w < 4) (hm : m < 24) (hd : d < 6)
    (hp : posr (nI (d + 1)) (nI (m + 1), nI (d + 1), li, yc, wt, he, yl, ye, upd yk m 9, pP, upd yn m (nI w), upd pF m ((1 : Int32) <<< (nI w &&& 31)), upd stk d (nI m), me, mt, cl, wa, va, ic)) : wpY_name posr (nI m, nI d, li, yc, wt, he, yl, ye, yk, pP, yn, pF, stk, me, mt, cl, wa, va, ic) (nI w) := by
  unfold wpY_name
  dsimp only
  exact yy_isName1 hw (br_f (by decide) (yy_leaf_ok hm hd hp))
theorem yo_two_bad {x : Int32} (hd : d ≤ 6) (hS : ∀ j, j < d → ∃ q, q < 24 ∧ stk j = nI q) (h : x < 0 ∨ ¬ x ≤ 4) (hp : posr (-1) (nI m, nI d, li, yc, wt, he, yl, ye, yk, pP, yn, pF, stk, me, mt, cl, wa, va, ic)) : wpY_two posr (nI m, nI d, li, yc, wt, he, yl, ye, yk, pP, yn, pF, stk, me, mt, cl, wa, va, ic) x := by
  unfold wpY_two
  dsimp only
  exact yy_freeAt (i := 0) hd (by omega) hS (yy_freeAt (i := 1) hd (by omega) hS (nm_e (br_c (fun _ => hp) (fun z => br_f (h.resolve_left z) hp))))
theorem yo_bind_bad {x : Int32} (h : x < 0 ∨ nI 4 ≤ x) (hp : posr (-1) (nI m, nI d, li, yc, wt, he, yl, ye, yk, pP, yn, pF, stk, me, mt, cl, wa, va, ic)) : wpY_bind posr (nI m, nI d, li, yc, wt, he, yl, ye, yk, pP, yn, pF, stk, me, mt, cl, wa, va, ic) x := by
  unfold wpY_bind
  dsimp only
  exact yy_isName0 h (br_t rfl hp)
theorem yo_function_bad {x y : Int32} (h : x < 0 ∨ nI 4 ≤ x) (hp : posr (-1) (nI m, nI d, li, yc, wt, he, yl, ye, yk, pP, yn, pF, stk, me, mt, cl, wa, va, ic)) : wpY_function posr (nI m, nI d, li, yc, wt, he, yl, ye, yk, pP, yn, pF, stk, me, mt, cl, wa, va, ic) x y := by
  unfold wpY_function
  dsimp only
  exact yy_isName0 h (br_t rfl hp)
theorem yo_function_bad2 {f : Nat} {y : Int32} (hf : f < 4) (h : y < 0 ∨ nI 4 ≤ y) (hp : posr (-1) (nI m, nI d, li, yc, wt, he, yl, ye, yk, pP, yn, pF, stk, me, mt, cl, wa, va, ic)) : wpY_function posr (nI m, nI d, li, yc, wt, he, yl, ye, yk, pP, yn, pF, stk, me, mt, cl, wa, va, ic) (nI f) y := by
  unfold wpY_function
  dsimp only
  exact yy_isName1 hf (br_f (by decide) (yy_isName0 h (br_t rfl hp)))
theorem yo_two_full {o : Nat} (ho : o < 5) (hd : d ≤ 6) (hS : ∀ j, j < d → ∃ q, q < 24 ∧ stk j = nI q) (h : m = 24) (hp : posr (-2) (nI m, nI d, li, yc, wt, he, yl, ye, yk, pP, yn, pF, stk, me, mt, cl, wa, va, ic)) : wpY_two posr (nI m, nI d, li, yc, wt, he, yl, ye, yk, pP, yn, pF, stk, me, mt, cl, wa, va, ic) (nI o) := by
  unfold wpY_two
  dsimp only
  exact yy_freeAt (i := 0) hd (by omega) hS (yy_freeAt (i := 1) hd (by omega) hS (nm_e (br_f (nI_pos (by omega)) (br_t (nI_le (b := 4) (by omega) (by decide)) (yy_make_full h hp)))))
theorem yo_two_few {o : Nat} (ho : o < 5) (hd : d ≤ 6) (hS : ∀ j, j < d → ∃ q, q < 24 ∧ stk j = nI q) (hm : m < 24) (h : d < 2) (hp : posr (-3) (nI m, nI d, li, yc, wt, he, yl, ye, yk, pP, yn, pF, stk, me, mt, cl, wa, va, ic)) : wpY_two posr (nI m, nI d, li, yc, wt, he, yl, ye, yk, pP, yn, pF, stk, me, mt, cl, wa, va, ic) (nI o) := by
  unfold wpY_two
  dsimp only
  exact yy_freeAt (i := 0) hd (by omega) hS (yy_freeAt (i := 1) hd (by omega) hS (nm_e (br_f (nI_pos (by omega)) (br_t (nI_le (b := 4) (by omega) (by decide)) (yy_make_few (cnt := 2) hm h (by omega) hp)))))
theorem yo_two_ok {o : Nat} (ho : o < 5) {g : Nat} {F : Int32} (hd : g + 2 ≤ 6) (hS : ∀ j, j < (g + 2) → ∃ q, q < 24 ∧ stk j = nI q) (hm : m < 24) (hF : (cc_fa pF stk (g + 2) 0 ||| cc_fa pF stk (g + 2) 1) = F)
    (hp : posr (nI (g + 1)) (nI (m + 1), nI (g + 1), li, yc, wt, he, yl, ye, upd yk m (nI o), cc_cp pP stk (3 * m) g 2, upd yn m 0, upd pF m F, upd stk g (nI m), me, mt, cl, wa, va, ic)) : wpY_two posr (nI m, nI (g + 2), li, yc, wt, he, yl, ye, yk, pP, yn, pF, stk, me, mt, cl, wa, va, ic) (nI o) := by
  unfold wpY_two
  dsimp only
  exact yy_freeAt (i := 0) hd (by omega) hS (yy_freeAt (i := 1) hd (by omega) hS (nm_r hF (br_f (nI_pos (by omega)) (br_t (nI_le (b := 4) (by omega) (by decide)) (yy_make_ok (cnt := 2) hm (by omega) hd (by omega) hp)))))
theorem yo_choose_full  (hd : d ≤ 6) (hS : ∀ j, j < d → ∃ q, q < 24 ∧ stk j = nI q) (h : m = 24) (hp : posr (-2) (nI m, nI d, li, yc, wt, he, yl, ye, yk, pP, yn, pF, stk, me, mt, cl, wa, va, ic)) : wpY_choose posr (nI m, nI d, li, yc, wt, he, yl, ye, yk, pP, yn, pF, stk, me, mt, cl, wa, va, ic)  := by
  unfold wpY_choose
  dsimp only
  exact yy_freeAt (i := 0) hd (by omega) hS (yy_freeAt (i := 1) hd (by omega) hS (yy_freeAt (i := 2) hd (by omega) hS (nm_e (yy_make_full h hp))))
theorem yo_choose_few  (hd : d ≤ 6) (hS : ∀ j, j < d → ∃ q, q < 24 ∧ stk j = nI q) (hm : m < 24) (h : d < 3) (hp : posr (-3) (nI m, nI d, li, yc, wt, he, yl, ye, yk, pP, yn, pF, stk, me, mt, cl, wa, va, ic)) : wpY_choose posr (nI m, nI d, li, yc, wt, he, yl, ye, yk, pP, yn, pF, stk, me, mt, cl, wa, va, ic)  := by
  unfold wpY_choose
  dsimp only
  exact yy_freeAt (i := 0) hd (by omega) hS (yy_freeAt (i := 1) hd (by omega) hS (yy_freeAt (i := 2) hd (by omega) hS (nm_e (yy_make_few (cnt := 3) hm h (by omega) hp))))
theorem yo_choose_ok  {g : Nat} {F : Int32} (hd : g + 3 ≤ 6) (hS : ∀ j, j < (g + 3) → ∃ q, q < 24 ∧ stk j = nI q) (hm : m < 24) (hF : ((cc_fa pF stk (g + 3) 0 ||| cc_fa pF stk (g + 3) 1) ||| cc_fa pF stk (g + 3) 2) = F)
    (hp : posr (nI (g + 1)) (nI (m + 1), nI (g + 1), li, yc, wt, he, yl, ye, upd yk m 5, cc_cp pP stk (3 * m) g 3, upd yn m 0, upd pF m F, upd stk g (nI m), me, mt, cl, wa, va, ic)) : wpY_choose posr (nI m, nI (g + 3), li, yc, wt, he, yl, ye, yk, pP, yn, pF, stk, me, mt, cl, wa, va, ic)  := by
  unfold wpY_choose
  dsimp only
  exact yy_freeAt (i := 0) hd (by omega) hS (yy_freeAt (i := 1) hd (by omega) hS (yy_freeAt (i := 2) hd (by omega) hS (nm_r hF (yy_make_ok (cnt := 3) hm (by omega) hd (by omega) hp))))
theorem yo_bind_full {w : Nat} (hw : w < 4) (hd : d ≤ 6) (hS : ∀ j, j < d → ∃ q, q < 24 ∧ stk j = nI q) (h : m = 24) (hp : posr (-2) (nI m, nI d, li, yc, wt, he, yl, ye, yk, pP, yn, pF, stk, me, mt, cl, wa, va, ic)) : wpY_bind posr (nI m, nI d, li, yc, wt, he, yl, ye, yk, pP, yn, pF, stk, me, mt, cl, wa, va, ic) (nI w) := by
  unfold wpY_bind
  dsimp only
  exact yy_isName1 hw (br_f (by decide) (yy_freeAt (i := 1) hd (by omega) hS (yy_freeAt (i := 0) hd (by omega) hS (nm_e (yy_make_full h hp)))))
theorem yo_bind_few {w : Nat} (hw : w < 4) (hd : d ≤ 6) (hS : ∀ j, j < d → ∃ q, q < 24 ∧ stk j = nI q) (hm : m < 24) (h : d < 2) (hp : posr (-3) (nI m, nI d, li, yc, wt, he, yl, ye, yk, pP, yn, pF, stk, me, mt, cl, wa, va, ic)) : wpY_bind posr (nI m, nI d, li, yc, wt, he, yl, ye, yk, pP, yn, pF, stk, me, mt, cl, wa, va, ic) (nI w) := by
  unfold wpY_bind
  dsimp only
  exact yy_isName1 hw (br_f (by decide) (yy_freeAt (i := 1) hd (by omega) hS (yy_freeAt (i := 0) hd (by omega) hS (nm_e (yy_make_few (cnt := 2) hm h (by omega) hp)))))
theorem yo_bind_ok {w : Nat} (hw : w < 4) {g : Nat} {F : Int32} (hd : g + 2 ≤ 6) (hS : ∀ j, j < (g + 2) → ∃ q, q < 24 ∧ stk j = nI q) (hm : m < 24) (hF : (cc_fa pF stk (g + 2) 1 ||| (cc_fa pF stk (g + 2) 0 &&& (((1 : Int32) <<< (nI w &&& 31)) ^^^ (-1)))) = F)
    (hp : posr (nI (g + 1)) (nI (m + 1), nI (g + 1), li, yc, wt, he, yl, ye, upd yk m 6, cc_cp pP stk (3 * m) g 2, upd yn m (nI w), upd pF m F, upd stk g (nI m), me, mt, cl, wa, va, ic)) : wpY_bind posr (nI m, nI (g + 2), li, yc, wt, he, yl, ye, yk, pP, yn, pF, stk, me, mt, cl, wa, va, ic) (nI w) := by
  unfold wpY_bind
  dsimp only
  exact yy_isName1 hw (br_f (by decide) (yy_freeAt (i := 1) hd (by omega) hS (yy_freeAt (i := 0) hd (by omega) hS (nm_r hF (yy_make_ok (cnt := 2) hm (by omega) hd (by omega) hp)))))
theorem yo_function_full {f w : Nat} (hf : f < 4) (hw : w < 4) (hd : d ≤ 6) (hS : ∀ j, j < d → ∃ q, q < 24 ∧ stk j = nI q) (h : m = 24) (hp : posr (-2) (nI m, nI d, li, yc, wt, he, yl, ye, yk, pP, yn, pF, stk, me, mt, cl, wa, va, ic)) : wpY_function posr (nI m, nI d, li, yc, wt, he, yl, ye, yk, pP, yn, pF, stk, me, mt, cl, wa, va, ic) (nI f) (nI w) := by
  unfold wpY_function
  dsimp only
  exact yy_isName1 hf (br_f (by decide) (yy_isName1 hw (br_f (by decide) (yy_freeAt (i := 0) hd (by omega) hS (nm_e (yy_make_full h hp))))))
theorem yo_function_few {f w : Nat} (hf : f < 4) (hw : w < 4) (hd : d ≤ 6) (hS : ∀ j, j < d → ∃ q, q < 24 ∧ stk j = nI q) (hm : m < 24) (h : d < 1) (hp : posr (-3) (nI m, nI d, li, yc, wt, he, yl, ye, yk, pP, yn, pF, stk, me, mt, cl, wa, va, ic)) : wpY_function posr (nI m, nI d, li, yc, wt, he, yl, ye, yk, pP, yn, pF, stk, me, mt, cl, wa, va, ic) (nI f) (nI w) := by
  unfold wpY_function
  dsimp only
  exact yy_isName1 hf (br_f (by decide) (yy_isName1 hw (br_f (by decide) (yy_freeAt (i := 0) hd (by omega) hS (nm_e (yy_make_few (cnt := 1) hm h (by omega) hp))))))
theorem yo_function_ok {f w : Nat} (hf : f < 4) (hw : w < 4) {g : Nat} {F : Int32} (hd : g + 1 ≤ 6) (hS : ∀ j, j < (g + 1) → ∃ q, q < 24 ∧ stk j = nI q) (hm : m < 24) (hF : ((cc_fa pF stk (g + 1) 0 &&& (((1 : Int32) <<< (nI f &&& 31)) ^^^ (-1))) &&& (((1 : Int32) <<< (nI w &&& 31)) ^^^ (-1))) = F)
    (hp : posr (nI (g + 1)) (nI (m + 1), nI (g + 1), li, yc, wt, he, yl, ye, upd yk m 7, cc_cp pP stk (3 * m) g 1, upd yn m (nI (4 * f + w)), upd pF m F, upd stk g (nI m), me, mt, cl, wa, va, ic)) : wpY_function posr (nI m, nI (g + 1), li, yc, wt, he, yl, ye, yk, pP, yn, pF, stk, me, mt, cl, wa, va, ic) (nI f) (nI w) := by
  unfold wpY_function
  dsimp only
  rw [cc_y4]
  exact yy_isName1 hf (br_f (by decide) (yy_isName1 hw (br_f (by decide) (yy_freeAt (i := 0) hd (by omega) hS (nm_r hF (yy_make_ok (cnt := 1) hm (by omega) hd (by omega) hp))))))
end
end
section
/-! what is owed -/
def i_Rel (k : Nat) (u : SX) (v : SY) : Prop :=
  ∃ (m d : Nat) (tC rC sC cC kC en li yc wt he yl ye : Int32) (pK pD pS pP pF stk tP tS tD rK rV mK mV cP cS yk yn me mt cl wa va ic : Nat → Int32),
    u = (nI m, nI d, tC, rC, sC, cC, kC, en, pK, pD, pS, pP, pF, stk, tP, tS, tD, rK, rV, mK, mV, cP, cS) ∧ v = (nI m, nI d, li, yc, wt, he, yl, ye, yk, pP, yn, pF, stk, me, mt, cl, wa, va, ic) ∧ cc_Sr m d pK pD pS pP yk yn stk
theorem cc_rel {k m d : Nat} {tC rC sC cC kC en li yc wt he yl ye : Int32} {pK pD pS pP pF stk tP tS tD rK rV mK mV cP cS yk yn me mt cl wa va ic : Nat → Int32} (S : cc_Sr m d pK pD pS pP yk yn stk) : i_Rel k (nI m, nI d, tC, rC, sC, cC, kC, en, pK, pD, pS, pP, pF, stk, tP, tS, tD, rK, rV, mK, mV, cP, cS) (nI m, nI d, li, yc, wt, he, yl, ye, yk, pP, yn, pF, stk, me, mt, cl, wa, va, ic) :=
  ⟨m, d, tC, rC, sC, cC, kC, en, li, yc, wt, he, yl, ye, pK, pD, pS, pP, pF, stk, tP, tS, tD, rK, rV, mK, mV, cP, cS, yk, yn, me, mt, cl, wa, va, ic, rfl, rfl, S⟩
theorem cc_Sr0 {pK pD pS pP yk yn stk : Nat → Int32} : cc_Sr 0 0 pK pD pS pP yk yn stk :=
  ⟨by omega, by omega, fun i hi => absurd hi (Nat.not_lt_zero i), fun _ => 1, fun _ => 1, fun i hi => absurd hi (Nat.not_lt_zero i), Nat.le_refl 0⟩
theorem i_up {k : Nat} {u : SX} {v : SY} (h : i_Rel k u v) : i_Rel (k + 3) u v := h
theorem i_vc0 : wpX_init (fun u => wpY_init (fun v => i_Rel 0 u v)) := cc_rel (k := 0) (m := 0) (d := 0) cc_Sr0
theorem i_vc_number {k : Nat} {u : SX} {v : SY} (I : i_Rel k u v) (hk : k + 3 ≤ 1536) (v1 : Int32) : wpX_number (fun r u' => wpY_number (fun r' v' => r' = r ∧ i_Rel (k + 3) u' v') v v1) u v1 := by
  obtain ⟨m, d, tC, rC, sC, cC, kC, en, li, yc, wt, he, yl, ye, pK, pD, pS, pP, pF, stk, tP, tS, tD, rK, rV, mK, mV, cP, cS, yk, yn, me, mt, cl, wa, va, ic, rfl, rfl, S⟩ := I
  have h24 : m ≤ 24 := S.1
  have h6 : d ≤ 6 := S.2.1
  by_cases h1 : v1 < -9
  · exact xo_number_bad (Or.inl h1) (yo_number_bad (Or.inl h1) ⟨rfl, cc_rel S⟩)
  · by_cases h2 : v1 ≤ 9
    · by_cases h : m = 24 ∨ d = 6
      · exact xo_number_full h1 h2 h (yo_number_full h1 h2 h ⟨rfl, cc_rel S⟩)
      · have hm : m < 24 := by omega
        have hd : d < 6 := by omega
        exact xo_number_ok h1 h2 hm hd (yo_number_ok h1 h2 hm hd ⟨rfl, cc_rel (cc_mk_number S hm hd)⟩)
    · exact xo_number_bad (Or.inr h2) (yo_number_bad (Or.inr h2) ⟨rfl, cc_rel S⟩)
theorem i_vc_name {k : Nat} {u : SX} {v : SY} (I : i_Rel k u v) (hk : k + 3 ≤ 1536) (v1 : Int32) : wpX_name (fun r u' => wpY_name (fun r' v' => r' = r ∧ i_Rel (k + 3) u' v') v v1) u v1 := by
  obtain ⟨m, d, tC, rC, sC, cC, kC, en, li, yc, wt, he, yl, ye, pK, pD, pS, pP, pF, stk, tP, tS, tD, rK, rV, mK, mV, cP, cS, yk, yn, me, mt, cl, wa, va, ic, rfl, rfl, S⟩ := I
  have h24 : m ≤ 24 := S.1
  have h6 : d ≤ 6 := S.2.1
  rcases pk_ix v1 (n := 4) (by decide) with z | z | ⟨w, hw, rfl⟩
  · exact xo_name_bad (Or.inl z) (yo_name_bad (Or.inl z) ⟨rfl, cc_rel S⟩)
  · exact xo_name_bad (Or.inr z) (yo_name_bad (Or.inr z) ⟨rfl, cc_rel S⟩)
  · by_cases h : m = 24 ∨ d = 6
    · exact xo_name_full hw h (yo_name_full hw h ⟨rfl, cc_rel S⟩)
    · have hm : m < 24 := by omega
      have hd : d < 6 := by omega
      exact xo_name_ok hw hm hd (yo_name_ok hw hm hd ⟨rfl, cc_rel (cc_mk_name S hm hd hw)⟩)
theorem i_vc_two {k : Nat} {u : SX} {v : SY} (I : i_Rel k u v) (hk : k + 3 ≤ 1536) (v1 : Int32) : wpX_two (fun r u' => wpY_two (fun r' v' => r' = r ∧ i_Rel (k + 3) u' v') v v1) u v1 := by
  obtain ⟨m, d, tC, rC, sC, cC, kC, en, li, yc, wt, he, yl, ye, pK, pD, pS, pP, pF, stk, tP, tS, tD, rK, rV, mK, mV, cP, cS, yk, yn, me, mt, cl, wa, va, ic, rfl, rfl, S⟩ := I
  have h24 : m ≤ 24 := S.1
  have h6 : d ≤ 6 := S.2.1
  have hS : ∀ j, j < d → ∃ q, q < 24 ∧ stk j = nI q := fun j hj => (S.2.2.1 j hj).imp (fun q hq => ⟨Nat.lt_of_lt_of_le hq.1 h24, hq.2⟩)
  rcases pk_ix v1 (n := 5) (by decide) with z | z | ⟨o, ho, rfl⟩
  · exact xo_two_bad (Or.inl z) (yo_two_bad h6 hS (Or.inl z) ⟨rfl, cc_rel S⟩)
  · have z2 : ¬ v1 ≤ 4 := Int32.not_le.mpr (cc_ge v1 (n := 4) (by decide) z)
    exact xo_two_bad (Or.inr z2) (yo_two_bad h6 hS (Or.inr z2) ⟨rfl, cc_rel S⟩)
  · by_cases hm : m = 24
    · exact xo_two_full ho hm (yo_two_full ho h6 hS hm ⟨rfl, cc_rel S⟩)
    · have hm : m < 24 := by omega
      by_cases hd : d < 2
      · exact xo_two_few ho hm hd (yo_two_few ho h6 hS hm hd ⟨rfl, cc_rel S⟩)
      · obtain ⟨g, rfl⟩ : ∃ g, d = g + 2 := ⟨d - 2, by omega⟩
        obtain ⟨a, ha, ea⟩ := hS g (by omega)
        obtain ⟨b, hb, eb⟩ := hS (g + 1) (by omega)
        refine xo_two_ok ho hm h6 ha hb ea eb (yo_two_ok ho h6 hS hm ?_ ⟨rfl, cc_rel (cc_mk_two S hm ho)⟩)
        rw [cc_fa_at (i := 0) (j := g + 1) (by omega) (by omega) hb eb, cc_fa_at (i := 1) (j := g) (by omega) (by omega) ha ea, Int32.or_comm]
theorem i_vc_choose {k : Nat} {u : SX} {v : SY} (I : i_Rel k u v) (hk : k + 3 ≤ 1536) : wpX_choose (fun r u' => wpY_choose (fun r' v' => r' = r ∧ i_Rel (k + 3) u' v') v) u := by
  obtain ⟨m, d, tC, rC, sC, cC, kC, en, li, yc, wt, he, yl, ye, pK, pD, pS, pP, pF, stk, tP, tS, tD, rK, rV, mK, mV, cP, cS, yk, yn, me, mt, cl, wa, va, ic, rfl, rfl, S⟩ := I
  have h24 : m ≤ 24 := S.1
  have h6 : d ≤ 6 := S.2.1
  have hS : ∀ j, j < d → ∃ q, q < 24 ∧ stk j = nI q := fun j hj => (S.2.2.1 j hj).imp (fun q hq => ⟨Nat.lt_of_lt_of_le hq.1 h24, hq.2⟩)
  by_cases hm : m = 24
  · exact xo_choose_full  hm (yo_choose_full  h6 hS hm ⟨rfl, cc_rel S⟩)
  · have hm : m < 24 := by omega
    by_cases hd : d < 3
    · exact xo_choose_few  hm hd (yo_choose_few  h6 hS hm hd ⟨rfl, cc_rel S⟩)
    · obtain ⟨g, rfl⟩ : ∃ g, d = g + 3 := ⟨d - 3, by omega⟩
      obtain ⟨a, ha, ea⟩ := hS g (by omega)
      obtain ⟨b, hb, eb⟩ := hS (g + 1) (by omega)
      obtain ⟨c, hc, ec⟩ := hS (g + 2) (by omega)
      refine xo_choose_ok  hm h6 ha hb hc ea eb ec (yo_choose_ok  h6 hS hm ?_ ⟨rfl, cc_rel (cc_mk_choose S hm)⟩)
      rw [cc_fa_at (i := 0) (j := g + 2) (by omega) (by omega) hc ec, cc_fa_at (i := 1) (j := g + 1) (by omega) (by omega) hb eb, cc_fa_at (i := 2) (j := g) (by omega) (by omega) ha ea, Int32.or_comm, Int32.or_comm (pF c), Int32.or_assoc]
theorem i_vc_bind {k : Nat} {u : SX} {v : SY} (I : i_Rel k u v) (hk : k + 3 ≤ 1536) (v1 : Int32) : wpX_bind (fun r u' => wpY_bind (fun r' v' => r' = r ∧ i_Rel (k + 3) u' v') v v1) u v1 := by
  obtain ⟨m, d, tC, rC, sC, cC, kC, en, li, yc, wt, he, yl, ye, pK, pD, pS, pP, pF, stk, tP, tS, tD, rK, rV, mK, mV, cP, cS, yk, yn, me, mt, cl, wa, va, ic, rfl, rfl, S⟩ := I
  have h24 : m ≤ 24 := S.1
  have h6 : d ≤ 6 := S.2.1
  have hS : ∀ j, j < d → ∃ q, q < 24 ∧ stk j = nI q := fun j hj => (S.2.2.1 j hj).imp (fun q hq => ⟨Nat.lt_of_lt_of_le hq.1 h24, hq.2⟩)
  rcases pk_ix v1 (n := 4) (by decide) with z | z | ⟨w, hw, rfl⟩
  · exact xo_bind_bad (Or.inl z) (yo_bind_bad (Or.inl z) ⟨rfl, cc_rel S⟩)
  · exact xo_bind_bad (Or.inr z) (yo_bind_bad (Or.inr z) ⟨rfl, cc_rel S⟩)
  · by_cases hm : m = 24
    · exact xo_bind_full hw hm (yo_bind_full hw h6 hS hm ⟨rfl, cc_rel S⟩)
    · have hm : m < 24 := by omega
      by_cases hd : d < 2
      · exact xo_bind_few hw hm hd (yo_bind_few hw h6 hS hm hd ⟨rfl, cc_rel S⟩)
      · obtain ⟨g, rfl⟩ : ∃ g, d = g + 2 := ⟨d - 2, by omega⟩
        obtain ⟨a, ha, ea⟩ := hS g (by omega)
        obtain ⟨b, hb, eb⟩ := hS (g + 1) (by omega)
        refine xo_bind_ok hw hm h6 ha hb ea eb (yo_bind_ok hw h6 hS hm ?_ ⟨rfl, cc_rel (cc_mk_bind S hm hw)⟩)
        rw [cc_fa_at (i := 0) (j := g + 1) (by omega) (by omega) hb eb, cc_fa_at (i := 1) (j := g) (by omega) (by omega) ha ea]
theorem i_vc_function {k : Nat} {u : SX} {v : SY} (I : i_Rel k u v) (hk : k + 3 ≤ 1536) (v1 : Int32) (v2 : Int32) : wpX_function (fun r u' => wpY_function (fun r' v' => r' = r ∧ i_Rel (k + 3) u' v') v v1 v2) u v1 v2 := by
  obtain ⟨m, d, tC, rC, sC, cC, kC, en, li, yc, wt, he, yl, ye, pK, pD, pS, pP, pF, stk, tP, tS, tD, rK, rV, mK, mV, cP, cS, yk, yn, me, mt, cl, wa, va, ic, rfl, rfl, S⟩ := I
  have h24 : m ≤ 24 := S.1
  have h6 : d ≤ 6 := S.2.1
  have hS : ∀ j, j < d → ∃ q, q < 24 ∧ stk j = nI q := fun j hj => (S.2.2.1 j hj).imp (fun q hq => ⟨Nat.lt_of_lt_of_le hq.1 h24, hq.2⟩)
  rcases pk_ix v1 (n := 4) (by decide) with z | z | ⟨f, hf, rfl⟩
  · exact xo_function_bad (Or.inl z) (yo_function_bad (Or.inl z) ⟨rfl, cc_rel S⟩)
  · exact xo_function_bad (Or.inr z) (yo_function_bad (Or.inr z) ⟨rfl, cc_rel S⟩)
  · rcases pk_ix v2 (n := 4) (by decide) with z | z | ⟨w, hw, rfl⟩
    · exact xo_function_bad2 hf (Or.inl z) (yo_function_bad2 hf (Or.inl z) ⟨rfl, cc_rel S⟩)
    · exact xo_function_bad2 hf (Or.inr z) (yo_function_bad2 hf (Or.inr z) ⟨rfl, cc_rel S⟩)
    · by_cases hm : m = 24
      · exact xo_function_full hf hw hm (yo_function_full hf hw h6 hS hm ⟨rfl, cc_rel S⟩)
      · have hm : m < 24 := by omega
        by_cases hd : d < 1
        · exact xo_function_few hf hw hm hd (yo_function_few hf hw h6 hS hm hd ⟨rfl, cc_rel S⟩)
        · obtain ⟨g, rfl⟩ : ∃ g, d = g + 1 := ⟨d - 1, by omega⟩
          obtain ⟨a, ha, ea⟩ := hS g (by omega)
          refine xo_function_ok hf hw hm h6 ha ea (yo_function_ok hf hw h6 hS hm ?_ ⟨rfl, cc_rel (cc_mk_function S hm hw hf)⟩)
          rw [cc_fa_at (i := 0) (j := g) (by omega) (by omega) ha ea, Int32.and_assoc, Int32.and_assoc, Int32.and_comm (((1 : Int32) <<< (nI f &&& 31)) ^^^ (-1))]
theorem i_vc_discard {k : Nat} {u : SX} {v : SY} (I : i_Rel k u v) (hk : k + 3 ≤ 1536) : wpX_discard (fun u' => wpY_discard (fun v' => i_Rel (k + 3) u' v') v) u := by
  obtain ⟨m, d, tC, rC, sC, cC, kC, en, li, yc, wt, he, yl, ye, pK, pD, pS, pP, pF, stk, tP, tS, tD, rK, rV, mK, mV, cP, cS, yk, yn, me, mt, cl, wa, va, ic, rfl, rfl, S⟩ := I
  have h24 : m ≤ 24 := S.1
  have h6 : d ≤ 6 := S.2.1
  exact cc_rel (k := k + 3) (m := 0) (d := 0) cc_Sr0
theorem i_vc_depth {k : Nat} {u : SX} {v : SY} (I : i_Rel k u v) (hk : k + 3 ≤ 1536) : wpX_depth (fun r => wpY_depth (fun r' => r' = r ∧ i_Rel (k + 3) u v) v) u := by
  obtain ⟨m, d, tC, rC, sC, cC, kC, en, li, yc, wt, he, yl, ye, pK, pD, pS, pP, pF, stk, tP, tS, tD, rK, rV, mK, mV, cP, cS, yk, yn, me, mt, cl, wa, va, ic, rfl, rfl, S⟩ := I
  have h24 : m ≤ 24 := S.1
  have h6 : d ≤ 6 := S.2.1
  exact ⟨rfl, cc_rel S⟩
theorem i_vc_made {k : Nat} {u : SX} {v : SY} (I : i_Rel k u v) (hk : k + 3 ≤ 1536) : wpX_made (fun r => wpY_made (fun r' => r' = r ∧ i_Rel (k + 3) u v) v) u := by
  obtain ⟨m, d, tC, rC, sC, cC, kC, en, li, yc, wt, he, yl, ye, pK, pD, pS, pP, pF, stk, tP, tS, tD, rK, rV, mK, mV, cP, cS, yk, yn, me, mt, cl, wa, va, ic, rfl, rfl, S⟩ := I
  have h24 : m ≤ 24 := S.1
  have h6 : d ≤ 6 := S.2.1
  exact ⟨rfl, cc_rel S⟩
theorem i_vc_run {k : Nat} {u : SX} {v : SY} (I : i_Rel k u v) (hk : k + 3 ≤ 1536) : wpX_run (fun r u' => wpY_run (fun r' v' => r' = r ∧ i_Rel (k + 3) u' v') v) u := by
  obtain ⟨m, d, tC, rC, sC, cC, kC, en, li, yc, wt, he, yl, ye, pK, pD, pS, pP, pF, stk, tP, tS, tD, rK, rV, mK, mV, cP, cS, yk, yn, me, mt, cl, wa, va, ic, rfl, rfl, S⟩ := I
  have h24 : m ≤ 24 := S.1
  have h6 : d ≤ 6 := S.2.1
  unfold wpX_run
  dsimp only
  by_cases hd : d = 0
  · subst hd
    refine br_t nI_0 ?_
    unfold wpY_run
    dsimp only
    exact yy_work0 ⟨rfl, cc_rel S⟩
  · have hd0 : ¬ nI d = 0 := nI_ne0 (by omega) (by omega)
    obtain ⟨tC', rC', sC', cC', kC', en', li', wt', he', tP', tS', tD', rK', rV', mK', mV', cP', cS', me', mt', cl', wa', va', ic', g1, g2, g3⟩ := cc_top (pF := pF) (tC := tC) (rC := rC) (sC := sC) (cC := cC) (kC := kC) (en := en) (li := li) (yc := yc) (wt := wt) (he := he) (yl := yl) (ye := ye) (tP := tP) (tS := tS) (tD := tD) (rK := rK) (rV := rV) (mK := mK) (mV := mV) (cP := cP) (cS := cS) (me := me) (mt := mt) (cl := cl) (wa := wa) (va := va) (ic := ic) S (by omega)
    refine br_f hd0 (g2 _ ?_)
    dsimp only
    unfold wpY_run
    dsimp only
    exact g3 _ ⟨rfl, cc_rel S⟩
theorem i_vc_value {k : Nat} {u : SX} {v : SY} (I : i_Rel k u v) (hk : k + 3 ≤ 1536) : wpX_value (fun r u' => wpY_value (fun r' v' => r' = r ∧ i_Rel (k + 3) u' v') v) u := by
  obtain ⟨m, d, tC, rC, sC, cC, kC, en, li, yc, wt, he, yl, ye, pK, pD, pS, pP, pF, stk, tP, tS, tD, rK, rV, mK, mV, cP, cS, yk, yn, me, mt, cl, wa, va, ic, rfl, rfl, S⟩ := I
  have h24 : m ≤ 24 := S.1
  have h6 : d ≤ 6 := S.2.1
  unfold wpX_value
  dsimp only
  by_cases hd : d = 0
  · subst hd
    refine br_t nI_0 ?_
    unfold wpY_value
    dsimp only
    exact yy_work0 (br_f (show ¬ (-4 : Int32) = 0 by decide) ⟨rfl, cc_rel S⟩)
  · have hd0 : ¬ nI d = 0 := nI_ne0 (by omega) (by omega)
    obtain ⟨tC', rC', sC', cC', kC', en', li', wt', he', tP', tS', tD', rK', rV', mK', mV', cP', cS', me', mt', cl', wa', va', ic', g1, g2, g3⟩ := cc_top (pF := pF) (tC := tC) (rC := rC) (sC := sC) (cC := cC) (kC := kC) (en := en) (li := li) (yc := yc) (wt := wt) (he := he) (yl := yl) (ye := ye) (tP := tP) (tS := tS) (tD := tD) (rK := rK) (rV := rV) (mK := mK) (mV := mV) (cP := cP) (cS := cS) (me := me) (mt := mt) (cl := cl) (wa := wa) (va := va) (ic := ic) S (by omega)
    refine br_f hd0 (g2 _ ?_)
    by_cases he0 : en' = 0
    · refine br_t he0 ?_
      unfold wpY_value
      dsimp only
      exact g3 _ (br_t he0 ⟨g1 he0, cc_rel S⟩)
    · refine br_f he0 ?_
      unfold wpY_value
      dsimp only
      exact g3 _ (br_f he0 ⟨rfl, cc_rel S⟩)
theorem i_vc_calls {k : Nat} {u : SX} {v : SY} (I : i_Rel k u v) (hk : k + 3 ≤ 1536) : wpX_calls (fun r u' => wpY_calls (fun r' v' => r' = r ∧ i_Rel (k + 3) u' v') v) u := by
  obtain ⟨m, d, tC, rC, sC, cC, kC, en, li, yc, wt, he, yl, ye, pK, pD, pS, pP, pF, stk, tP, tS, tD, rK, rV, mK, mV, cP, cS, yk, yn, me, mt, cl, wa, va, ic, rfl, rfl, S⟩ := I
  have h24 : m ≤ 24 := S.1
  have h6 : d ≤ 6 := S.2.1
  unfold wpX_calls
  dsimp only
  by_cases hd : d = 0
  · subst hd
    refine br_t nI_0 ?_
    unfold wpY_calls
    dsimp only
    exact yy_work0 ⟨rfl, cc_rel S⟩
  · have hd0 : ¬ nI d = 0 := nI_ne0 (by omega) (by omega)
    obtain ⟨tC', rC', sC', cC', kC', en', li', wt', he', tP', tS', tD', rK', rV', mK', mV', cP', cS', me', mt', cl', wa', va', ic', g1, g2, g3⟩ := cc_top (pF := pF) (tC := tC) (rC := rC) (sC := sC) (cC := cC) (kC := kC) (en := en) (li := li) (yc := yc) (wt := wt) (he := he) (yl := yl) (ye := ye) (tP := tP) (tS := tS) (tD := tD) (rK := rK) (rV := rV) (mK := mK) (mV := mV) (cP := cP) (cS := cS) (me := me) (mt := mt) (cl := cl) (wa := wa) (va := va) (ic := ic) S (by omega)
    refine br_f hd0 (g2 _ ?_)
    dsimp only
    unfold wpY_calls
    dsimp only
    exact g3 _ ⟨rfl, cc_rel S⟩
theorem i_vc_closures {k : Nat} {u : SX} {v : SY} (I : i_Rel k u v) (hk : k + 3 ≤ 1536) : wpX_closures (fun r u' => wpY_closures (fun r' v' => r' = r ∧ i_Rel (k + 3) u' v') v) u := by
  obtain ⟨m, d, tC, rC, sC, cC, kC, en, li, yc, wt, he, yl, ye, pK, pD, pS, pP, pF, stk, tP, tS, tD, rK, rV, mK, mV, cP, cS, yk, yn, me, mt, cl, wa, va, ic, rfl, rfl, S⟩ := I
  have h24 : m ≤ 24 := S.1
  have h6 : d ≤ 6 := S.2.1
  unfold wpX_closures
  dsimp only
  by_cases hd : d = 0
  · subst hd
    refine br_t nI_0 ?_
    unfold wpY_closures
    dsimp only
    exact yy_work0 ⟨rfl, cc_rel S⟩
  · have hd0 : ¬ nI d = 0 := nI_ne0 (by omega) (by omega)
    obtain ⟨tC', rC', sC', cC', kC', en', li', wt', he', tP', tS', tD', rK', rV', mK', mV', cP', cS', me', mt', cl', wa', va', ic', g1, g2, g3⟩ := cc_top (pF := pF) (tC := tC) (rC := rC) (sC := sC) (cC := cC) (kC := kC) (en := en) (li := li) (yc := yc) (wt := wt) (he := he) (yl := yl) (ye := ye) (tP := tP) (tS := tS) (tD := tD) (rK := rK) (rV := rV) (mK := mK) (mV := mV) (cP := cP) (cS := cS) (me := me) (mt := mt) (cl := cl) (wa := wa) (va := va) (ic := ic) S (by omega)
    refine br_f hd0 (g2 _ ?_)
    dsimp only
    unfold wpY_closures
    dsimp only
    exact g3 _ ⟨rfl, cc_rel S⟩
theorem i_vc_free {k : Nat} {u : SX} {v : SY} (I : i_Rel k u v) (hk : k + 3 ≤ 1536) : wpX_free (fun r => wpY_free (fun r' => r' = r ∧ i_Rel (k + 3) u v) v) u := by
  obtain ⟨m, d, tC, rC, sC, cC, kC, en, li, yc, wt, he, yl, ye, pK, pD, pS, pP, pF, stk, tP, tS, tD, rK, rV, mK, mV, cP, cS, yk, yn, me, mt, cl, wa, va, ic, rfl, rfl, S⟩ := I
  have h24 : m ≤ 24 := S.1
  have h6 : d ≤ 6 := S.2.1
  unfold wpX_free wpY_free
  dsimp only
  by_cases hd : d = 0
  · subst hd
    exact br_t nI_0 (br_t nI_0 ⟨rfl, cc_rel S⟩)
  · have hd0 : ¬ nI d = 0 := nI_ne0 (by omega) (by omega)
    obtain ⟨q, hq, eq⟩ := S.2.2.1 (d - 1) (by omega)
    have e : nI d - 1 = nI (d - 1) := pk_sub (a := d) (b := 1) (by omega)
    have a1 : vp_in (nI d - 1) 6 := by rw [e]; exact vp_in_nI (by omega) (by decide)
    have a2 : vp_in (stk (nI d - 1).toNatClampNeg) 24 := by rw [e, nI_clamp (by omega), eq]; exact vp_in_nI (by omega) (by decide)
    exact br_f hd0 ⟨a1, a2, br_f hd0 ⟨a1, a2, ⟨rfl, cc_rel S⟩⟩⟩
end
