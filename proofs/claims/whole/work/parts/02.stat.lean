/-! the static part: programs, sizes, the stack -/
def cc_ss (stk : Nat → Int32) (sz : Nat → Nat) : Nat → Nat
  | 0 => 0
  | n + 1 => cc_ss stk sz n + sz (stk n).toNatClampNeg
theorem cc_ss_c {stk stk' : Nat → Int32} {sz sz' : Nat → Nat} : ∀ n : Nat, (∀ i, i < n → sz' (stk' i).toNatClampNeg = sz (stk i).toNatClampNeg) → cc_ss stk' sz' n = cc_ss stk sz n := by
  intro n
  induction n with
  | zero => intro _; rfl
  | succ n ih =>
    intro h
    show cc_ss stk' sz' n + sz' (stk' n).toNatClampNeg = cc_ss stk sz n + sz (stk n).toNatClampNeg
    rw [ih (fun i hi => h i (Nat.lt_succ_of_lt hi)), h n (Nat.lt_succ_self n)]
theorem cc_ss_le {stk : Nat → Int32} {sz : Nat → Nat} {n : Nat} : ∀ d : Nat, n < d → sz (stk n).toNatClampNeg ≤ cc_ss stk sz d := by
  intro d
  induction d with
  | zero => intro h; omega
  | succ d ih =>
    intro h
    show _ ≤ cc_ss stk sz d + sz (stk d).toNatClampNeg
    by_cases e : n = d
    · rw [e]; omega
    · have := ih (by omega); omega
def cc_cp (P stk : Nat → Int32) (j b : Nat) : Nat → Nat → Int32
  | 0 => P
  | i + 1 => upd (cc_cp P stk j b i) (j + i) (stk (b + i))
theorem cc_cp_lo {P stk : Nat → Int32} {j b : Nat} : ∀ (n i : Nat), i < j → cc_cp P stk j b n i = P i := by
  intro n
  induction n with
  | zero => intro i _; rfl
  | succ n ih =>
    intro i h
    show upd (cc_cp P stk j b n) (j + n) (stk (b + n)) i = P i
    rw [pk_un (by omega), ih i h]
theorem cc_cp_at {P stk : Nat → Int32} {j b : Nat} : ∀ (n i : Nat), i < n → cc_cp P stk j b n (j + i) = stk (b + i) := by
  intro n
  induction n with
  | zero => intro i h; omega
  | succ n ih =>
    intro i h
    show upd (cc_cp P stk j b n) (j + n) (stk (b + n)) (j + i) = stk (b + i)
    by_cases e : i = n
    · rw [e]; exact pk_us
    · rw [pk_un (by omega)]; exact ih i (by omega)
def cc_ex (f : Nat → Nat) (m z : Nat) : Nat → Nat := fun p => if p = m then z else f p
theorem cc_ex_s {f : Nat → Nat} {m z : Nat} : cc_ex f m z m = z := if_pos rfl
theorem cc_ex_n {f : Nat → Nat} {m z p : Nat} (h : p ≠ m) : cc_ex f m z p = f p := if_neg h
/-- what a program is, on both sides -/
def cc_St (m : Nat) (pK pD pS pP yk yn : Nat → Int32) (sz rm : Nat → Nat) (p : Nat) : Prop :=
  (pK p = 5 ∧ yk p = 8 ∧ yn p = pD p ∧ sz p = 1) ∨
  (pK p = 6 ∧ yk p = 9 ∧ sz p = 1 ∧ ∃ w, w < 4 ∧ pD p = nI w ∧ yn p = nI w) ∨
  (pK p = 9 ∧ yk p = 7 ∧ ∃ w f b, w < 4 ∧ f < 4 ∧ b < m ∧ pD p = nI w ∧ pS p = nI f ∧ yn p = nI (4 * f + w) ∧ pP (3 * p) = nI b ∧ sz p = 1 + sz b) ∨
  (pK p = 7 ∧ yk p = 5 ∧ ∃ a b c, a < m ∧ b < m ∧ c < m ∧ pP (3 * p) = nI a ∧ pP (3 * p + 1) = nI b ∧ pP (3 * p + 2) = nI c ∧ sz p = 1 + sz a + sz b + sz c ∧ rm p = sz b + sz c) ∨
  (pK p = 8 ∧ yk p = 6 ∧ ∃ w a b, w < 4 ∧ a < m ∧ b < m ∧ pD p = nI w ∧ yn p = nI w ∧ pP (3 * p) = nI a ∧ pP (3 * p + 1) = nI b ∧ sz p = 1 + sz a + sz b ∧ rm p = sz b) ∨
  (∃ o a b, o < 5 ∧ a < m ∧ b < m ∧ pK p = nI o ∧ yk p = nI o ∧ pP (3 * p) = nI a ∧ pP (3 * p + 1) = nI b ∧ sz p = 1 + sz a + sz b ∧ rm p = sz b)
/-- all programs -/
def cc_Al (m : Nat) (pK pD pS pP yk yn : Nat → Int32) (sz rm : Nat → Nat) : Prop :=
  ∀ p, p < m → 1 ≤ sz p ∧ sz p ≤ 24 ∧ cc_St m pK pD pS pP yk yn sz rm p
def cc_Sr (m d : Nat) (pK pD pS pP yk yn stk : Nat → Int32) : Prop :=
  m ≤ 24 ∧ d ≤ 6 ∧ (∀ i, i < d → ∃ q, q < m ∧ stk i = nI q) ∧ ∃ sz rm : Nat → Nat, cc_Al m pK pD pS pP yk yn sz rm ∧ cc_ss stk sz d ≤ m
theorem cc_St_up {m p z r : Nat} {pK pD pS pP pP' yk yn : Nat → Int32} {k dt sf k2 nt : Int32} {sz rm : Nat → Nat} (hp : p < m) (hP : ∀ j, j < 3 * m → pP' j = pP j)
    (h : cc_St m pK pD pS pP yk yn sz rm p) : cc_St (m + 1) (upd pK m k) (upd pD m dt) (upd pS m sf) pP' (upd yk m k2) (upd yn m nt) (cc_ex sz m z) (cc_ex rm m r) p := by
  have hn : p ≠ m := by omega
  have e1 : upd pK m k p = pK p := pk_un hn
  have e2 : upd pD m dt p = pD p := pk_un hn
  have e3 : upd pS m sf p = pS p := pk_un hn
  have e4 : upd yk m k2 p = yk p := pk_un hn
  have e5 : upd yn m nt p = yn p := pk_un hn
  have e6 : cc_ex sz m z p = sz p := cc_ex_n hn
  have e7 : cc_ex rm m r p = rm p := cc_ex_n hn
  have ez : ∀ a, a < m → cc_ex sz m z a = sz a := fun a ha => cc_ex_n (by omega)
  have p0 : pP' (3 * p) = pP (3 * p) := hP _ (by omega)
  have p1 : pP' (3 * p + 1) = pP (3 * p + 1) := hP _ (by omega)
  have p2 : pP' (3 * p + 2) = pP (3 * p + 2) := hP _ (by omega)
  rcases h with ⟨h1, h2, h3, h4⟩ | ⟨h1, h2, h3, w, h4, h5, h6⟩ | ⟨h1, h2, w, f, b, h3, h4, h5, h6, h7, h8, h9, h10⟩ | ⟨h1, h2, a, b, c, h3, h4, h5, h6, h7, h8, h9, h10⟩ | ⟨h1, h2, w, a, b, h3, h4, h5, h6, h7, h8, h9, h10, h11⟩ | ⟨o, a, b, h3, h4, h5, h6, h7, h8, h9, h10, h11⟩
  · exact Or.inl ⟨e1.trans h1, e4.trans h2, (e5.trans h3).trans e2.symm, e6.trans h4⟩
  · exact Or.inr (Or.inl ⟨e1.trans h1, e4.trans h2, e6.trans h3, w, h4, e2.trans h5, e5.trans h6⟩)
  · exact Or.inr (Or.inr (Or.inl ⟨e1.trans h1, e4.trans h2, w, f, b, h3, h4, by omega, e2.trans h6, e3.trans h7, e5.trans h8, p0.trans h9, by rw [e6, ez b h5]; exact h10⟩))
  · exact Or.inr (Or.inr (Or.inr (Or.inl ⟨e1.trans h1, e4.trans h2, a, b, c, by omega, by omega, by omega, p0.trans h6, p1.trans h7, p2.trans h8, by rw [e6, ez a h3, ez b h4, ez c h5]; exact h9, by rw [e7, ez b h4, ez c h5]; exact h10⟩)))
  · exact Or.inr (Or.inr (Or.inr (Or.inr (Or.inl ⟨e1.trans h1, e4.trans h2, w, a, b, h3, by omega, by omega, e2.trans h6, e5.trans h7, p0.trans h8, p1.trans h9, by rw [e6, ez a h4, ez b h5]; exact h10, by rw [e7, ez b h5]; exact h11⟩))))
  · exact Or.inr (Or.inr (Or.inr (Or.inr (Or.inr ⟨o, a, b, h3, by omega, by omega, e1.trans h6, e4.trans h7, p0.trans h8, p1.trans h9, by rw [e6, ez a h4, ez b h5]; exact h10, by rw [e7, ez b h5]; exact h11⟩))))
theorem cc_mk {m d b : Nat} {pK pD pS pP pP' yk yn stk : Nat → Int32} {k dt sf k2 nt : Int32} (h : cc_Sr m d pK pD pS pP yk yn stk) (hm : m < 24) (hb : b ≤ d) (h6 : b < 6) (hP : ∀ j, j < 3 * m → pP' j = pP j)
    (H : ∀ sz rm : Nat → Nat, ∃ z r, 1 ≤ z ∧ cc_ss stk sz b + z ≤ cc_ss stk sz d + 1 ∧ cc_St (m + 1) (upd pK m k) (upd pD m dt) (upd pS m sf) pP' (upd yk m k2) (upd yn m nt) (cc_ex sz m z) (cc_ex rm m r) m) :
    cc_Sr (m + 1) (b + 1) (upd pK m k) (upd pD m dt) (upd pS m sf) pP' (upd yk m k2) (upd yn m nt) (upd stk b (nI m)) := by
  obtain ⟨h24, hd, hq, sz, rm, hs, hss⟩ := h
  obtain ⟨z, r, hz, hzs, hst⟩ := H sz rm
  refine ⟨by omega, by omega, ?_, cc_ex sz m z, cc_ex rm m r, ?_, ?_⟩
  · intro i hi
    by_cases e : i = b
    · exact ⟨m, by omega, by rw [e]; exact pk_us⟩
    · obtain ⟨q, hq1, hq2⟩ := hq i (by omega)
      exact ⟨q, by omega, (pk_un e).trans hq2⟩
  · intro p hp
    by_cases e : p = m
    · rw [e]
      refine ⟨?_, ?_, hst⟩
      · rw [cc_ex_s]; exact hz
      · rw [cc_ex_s]; omega
    · obtain ⟨a1, a2, a3⟩ := hs p (by omega)
      refine ⟨?_, ?_, cc_St_up (by omega) hP a3⟩
      · rw [cc_ex_n e]; exact a1
      · rw [cc_ex_n e]; exact a2
  · have e1 : cc_ss (upd stk b (nI m)) (cc_ex sz m z) b = cc_ss stk sz b := cc_ss_c b (fun i hi => by
      obtain ⟨q, hq1, hq2⟩ := hq i (by omega)
      rw [pk_un (by omega), hq2, nI_clamp (by omega), cc_ex_n (by omega)])
    show cc_ss (upd stk b (nI m)) (cc_ex sz m z) b + cc_ex sz m z (upd stk b (nI m) b).toNatClampNeg ≤ m + 1
    rw [e1, pk_us, nI_clamp (by omega), cc_ex_s]
    omega
theorem cc_mk_number {m d : Nat} {pK pD pS pP yk yn stk : Nat → Int32} {x s : Int32} (h : cc_Sr m d pK pD pS pP yk yn stk) (hm : m < 24) (h6 : d < 6) :
    cc_Sr (m + 1) (d + 1) (upd pK m 5) (upd pD m x) (upd pS m s) pP (upd yk m 8) (upd yn m x) (upd stk d (nI m)) :=
  cc_mk h hm (Nat.le_refl d) h6 (fun _ _ => rfl) (fun sz rm => ⟨1, 0, Nat.le_refl 1, Nat.le_refl _, Or.inl ⟨pk_us, pk_us, (pk_us (f := yn)).trans (pk_us (f := pD)).symm, cc_ex_s⟩⟩)
theorem cc_mk_name {m d w : Nat} {pK pD pS pP yk yn stk : Nat → Int32} {s : Int32} (h : cc_Sr m d pK pD pS pP yk yn stk) (hm : m < 24) (h6 : d < 6) (hw : w < 4) :
    cc_Sr (m + 1) (d + 1) (upd pK m 6) (upd pD m (nI w)) (upd pS m s) pP (upd yk m 9) (upd yn m (nI w)) (upd stk d (nI m)) :=
  cc_mk h hm (Nat.le_refl d) h6 (fun _ _ => rfl) (fun sz rm => ⟨1, 0, Nat.le_refl 1, Nat.le_refl _, Or.inr (Or.inl ⟨pk_us, pk_us, cc_ex_s, w, hw, pk_us, pk_us⟩)⟩)
theorem cc_mk_two {m b o : Nat} {pK pD pS pP yk yn stk : Nat → Int32} {x s y : Int32} (h : cc_Sr m (b + 2) pK pD pS pP yk yn stk) (hm : m < 24) (ho : o < 5) :
    cc_Sr (m + 1) (b + 1) (upd pK m (nI o)) (upd pD m x) (upd pS m s) (cc_cp pP stk (3 * m) b 2) (upd yk m (nI o)) (upd yn m y) (upd stk b (nI m)) := by
  have h6 : b + 2 ≤ 6 := h.2.1
  obtain ⟨a, ha, ea⟩ := h.2.2.1 b (by omega)
  obtain ⟨c, hc, ec⟩ := h.2.2.1 (b + 1) (by omega)
  refine cc_mk h hm (by omega) (by omega) (fun j hj => cc_cp_lo 2 j hj) (fun sz rm => ⟨1 + sz a + sz c, sz c, by omega, ?_, ?_⟩)
  · show cc_ss stk sz b + (1 + sz a + sz c) ≤ cc_ss stk sz b + sz (stk b).toNatClampNeg + sz (stk (b + 1)).toNatClampNeg + 1
    rw [ea, ec, nI_clamp (by omega), nI_clamp (by omega)]
    omega
  · exact Or.inr (Or.inr (Or.inr (Or.inr (Or.inr ⟨o, a, c, ho, by omega, by omega, pk_us, pk_us, (cc_cp_at 2 0 (by omega)).trans ea, (cc_cp_at 2 1 (by omega)).trans ec, by rw [cc_ex_s, cc_ex_n (by omega), cc_ex_n (by omega)], by rw [cc_ex_s, cc_ex_n (by omega)]⟩))))
theorem cc_mk_bind {m b w : Nat} {pK pD pS pP yk yn stk : Nat → Int32} {s : Int32} (h : cc_Sr m (b + 2) pK pD pS pP yk yn stk) (hm : m < 24) (hw : w < 4) :
    cc_Sr (m + 1) (b + 1) (upd pK m 8) (upd pD m (nI w)) (upd pS m s) (cc_cp pP stk (3 * m) b 2) (upd yk m 6) (upd yn m (nI w)) (upd stk b (nI m)) := by
  have h6 : b + 2 ≤ 6 := h.2.1
  obtain ⟨a, ha, ea⟩ := h.2.2.1 b (by omega)
  obtain ⟨c, hc, ec⟩ := h.2.2.1 (b + 1) (by omega)
  refine cc_mk h hm (by omega) (by omega) (fun j hj => cc_cp_lo 2 j hj) (fun sz rm => ⟨1 + sz a + sz c, sz c, by omega, ?_, ?_⟩)
  · show cc_ss stk sz b + (1 + sz a + sz c) ≤ cc_ss stk sz b + sz (stk b).toNatClampNeg + sz (stk (b + 1)).toNatClampNeg + 1
    rw [ea, ec, nI_clamp (by omega), nI_clamp (by omega)]
    omega
  · exact Or.inr (Or.inr (Or.inr (Or.inr (Or.inl ⟨pk_us, pk_us, w, a, c, hw, by omega, by omega, pk_us, pk_us, (cc_cp_at 2 0 (by omega)).trans ea, (cc_cp_at 2 1 (by omega)).trans ec, by rw [cc_ex_s, cc_ex_n (by omega), cc_ex_n (by omega)], by rw [cc_ex_s, cc_ex_n (by omega)]⟩))))
theorem cc_mk_choose {m b : Nat} {pK pD pS pP yk yn stk : Nat → Int32} {x s y : Int32} (h : cc_Sr m (b + 3) pK pD pS pP yk yn stk) (hm : m < 24) :
    cc_Sr (m + 1) (b + 1) (upd pK m 7) (upd pD m x) (upd pS m s) (cc_cp pP stk (3 * m) b 3) (upd yk m 5) (upd yn m y) (upd stk b (nI m)) := by
  have h6 : b + 3 ≤ 6 := h.2.1
  obtain ⟨a, ha, ea⟩ := h.2.2.1 b (by omega)
  obtain ⟨c, hc, ec⟩ := h.2.2.1 (b + 1) (by omega)
  obtain ⟨d, hd, ed⟩ := h.2.2.1 (b + 2) (by omega)
  refine cc_mk h hm (by omega) (by omega) (fun j hj => cc_cp_lo 3 j hj) (fun sz rm => ⟨1 + sz a + sz c + sz d, sz c + sz d, by omega, ?_, ?_⟩)
  · show cc_ss stk sz b + (1 + sz a + sz c + sz d) ≤ cc_ss stk sz b + sz (stk b).toNatClampNeg + sz (stk (b + 1)).toNatClampNeg + sz (stk (b + 2)).toNatClampNeg + 1
    rw [ea, ec, ed, nI_clamp (by omega), nI_clamp (by omega), nI_clamp (by omega)]
    omega
  · exact Or.inr (Or.inr (Or.inr (Or.inl ⟨pk_us, pk_us, a, c, d, by omega, by omega, by omega, (cc_cp_at 3 0 (by omega)).trans ea, (cc_cp_at 3 1 (by omega)).trans ec, (cc_cp_at 3 2 (by omega)).trans ed, by rw [cc_ex_s, cc_ex_n (by omega), cc_ex_n (by omega), cc_ex_n (by omega)], by rw [cc_ex_s, cc_ex_n (by omega), cc_ex_n (by omega)]⟩)))
theorem cc_mk_function {m b w f : Nat} {pK pD pS pP yk yn stk : Nat → Int32} (h : cc_Sr m (b + 1) pK pD pS pP yk yn stk) (hm : m < 24) (hw : w < 4) (hf : f < 4) :
    cc_Sr (m + 1) (b + 1) (upd pK m 9) (upd pD m (nI w)) (upd pS m (nI f)) (cc_cp pP stk (3 * m) b 1) (upd yk m 7) (upd yn m (nI (4 * f + w))) (upd stk b (nI m)) := by
  have h6 : b + 1 ≤ 6 := h.2.1
  obtain ⟨a, ha, ea⟩ := h.2.2.1 b (by omega)
  refine cc_mk h hm (by omega) (by omega) (fun j hj => cc_cp_lo 1 j hj) (fun sz rm => ⟨1 + sz a, 0, by omega, ?_, ?_⟩)
  · show cc_ss stk sz b + (1 + sz a) ≤ cc_ss stk sz b + sz (stk b).toNatClampNeg + 1
    rw [ea, nI_clamp (by omega)]
    omega
  · exact Or.inr (Or.inr (Or.inl ⟨pk_us, pk_us, w, f, a, hw, hf, by omega, pk_us, pk_us, pk_us, (cc_cp_at 1 0 (by omega)).trans ea, by rw [cc_ex_s, cc_ex_n (by omega)]⟩))
