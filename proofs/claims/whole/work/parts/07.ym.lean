/-! Y's own methods, each with a general post -/
theorem cc_pkw (l p d : Nat) : (32 * nI l + nI p) * 4 + nI d = nI ((32 * l + p) * 4 + d) := by
  rw [show (32 : Int32) * nI l = nI (32 * l) from pk_mul 32 l, nI_add, show nI (32 * l + p) * 4 = nI ((32 * l + p) * 4) from pk_mul _ 4, nI_add]
theorem cc_pkc (l p : Nat) : 32 * nI l + nI p = nI (32 * l + p) := by
  rw [show (32 : Int32) * nI l = nI (32 * l) from pk_mul 32 l, nI_add]
theorem cc_pkm (l n b : Nat) : 8 * nI l + 2 * nI n + nI b = nI (8 * l + 2 * n + b) := by
  rw [show (8 : Int32) * nI l = nI (8 * l) from pk_mul 8 l, show (2 : Int32) * nI n = nI (2 * n) from pk_mul 2 n, nI_add, nI_add]
theorem cc_y3 (s v : Nat) : 3 * nI s + nI v = nI (3 * s + v) := by
  rw [show (3 : Int32) * nI s = nI (3 * s) from pk_mul 3 s, nI_add]
theorem cc_y30 (s : Nat) : 3 * nI s = nI (3 * s) := pk_mul 3 s
theorem cc_y4 (f w : Nat) : 4 * nI f + nI w = nI (4 * f + w) := by
  rw [show (4 : Int32) * nI f = nI (4 * f) from pk_mul 4 f, nI_add]
section
variable {ym yd li yc wt he yl ye : Int32} {yk pP yn pF stk me mt cl wa va ic : Nat → Int32} {post : SY → Prop} {posr : Int32 → SY → Prop} {pos : Int32 → Prop}
theorem yy_wait {t p dd l : Nat} (ht : t < 680) (hp : post (ym, yd, li, yc, nI (t + 1), he, yl, ye, yk, pP, yn, pF, stk, me, mt, cl, upd wa t (nI ((32 * l + p) * 4 + dd)), va, ic)) : wpY_wait post (ym, yd, li, yc, nI t, he, yl, ye, yk, pP, yn, pF, stk, me, mt, cl, wa, va, ic) (nI p) (nI dd) (nI l) := by
  have h1 : t < 2 ^ 31 := by omega
  have hv : vp_in (nI t) 680 := vp_in_nI ht (by decide)
  simp only [wpY_wait, forall_eq, nI_1, nI_clamp h1, cc_pkw, hv, true_and]
  exact hp
theorem yy_hold {h : Nat} {k w : Int32} (hh : h < 680) (hk : k = 0 ∨ k = 1) (hp : post (ym, yd, li, yc, wt, nI (h + 1), yl, ye, yk, pP, yn, pF, stk, me, mt, cl, wa, upd va h w, upd ic h k)) : wpY_hold post (ym, yd, li, yc, wt, nI h, yl, ye, yk, pP, yn, pF, stk, me, mt, cl, wa, va, ic) k w := by
  have h1 : h < 2 ^ 31 := by omega
  have hv : vp_in (nI h) 680 := vp_in_nI hh (by decide)
  have hn : vp_nar .boolean k = k := by
    rcases hk with hk | hk <;> subst hk <;> rfl
  simp only [wpY_hold, forall_eq, nI_1, nI_clamp h1, hn, hv, true_and]
  exact hp
theorem yy_mean {e l n b : Nat} {w : Int32} (he1 : e < 800) (hb : b < 2) (hp : posr (nI (e + 1)) (ym, yd, nI (e + 1), yc, wt, he, yl, ye, yk, pP, yn, pF, stk, upd me e (nI (8 * l + 2 * n + b)), upd mt e w, cl, wa, va, ic)) : wpY_mean posr (ym, yd, nI e, yc, wt, he, yl, ye, yk, pP, yn, pF, stk, me, mt, cl, wa, va, ic) (nI l) (nI n) (nI b) w := by
  sorry
theorem yb_number {p h l : Nat} {x : Int32} (hp1 : p < 24) (hh : h < 680) (k2 : yk p = 8) (k3 : yn p = x) (hp : post (ym, yd, li, yc, wt, nI (h + 1), yl, ye, yk, pP, yn, pF, stk, me, mt, cl, wa, upd va h x, upd ic h 0)) : wpY_begin post (ym, yd, li, yc, wt, nI h, yl, ye, yk, pP, yn, pF, stk, me, mt, cl, wa, va, ic) (nI p) (nI l) := by
  sorry
theorem yb_name0 {p l w e c : Nat} {ek ew : Nat → Nat → Int32} (hp1 : p < 24) (hw : w < 4) (hE : cc_E e c me mt ek ew) (hl : l ≤ e) (he8 : e < 800) (k2 : yk p = 9) (k4 : yn p = nI w) (hk : ek l w = -1) (hp : post (ym, yd, li, yc, wt, he, yl, 2, yk, pP, yn, pF, stk, me, mt, cl, wa, va, ic)) : wpY_begin post (ym, yd, li, yc, wt, he, yl, ye, yk, pP, yn, pF, stk, me, mt, cl, wa, va, ic) (nI p) (nI l) := by
  sorry
theorem yb_name1 {p l w e c h : Nat} {ek ew : Nat → Nat → Int32} (hp1 : p < 24) (hw : w < 4) (hE : cc_E e c me mt ek ew) (hl : l ≤ e) (he8 : e < 800) (hh : h < 680) (k2 : yk p = 9) (k4 : yn p = nI w) (hk : ¬ ek l w = -1) (hp : post (ym, yd, li, yc, wt, nI (h + 1), yl, ye, yk, pP, yn, pF, stk, me, mt, cl, wa, upd va h (ew l w), upd ic h (ek l w))) : wpY_begin post (ym, yd, li, yc, wt, nI h, yl, ye, yk, pP, yn, pF, stk, me, mt, cl, wa, va, ic) (nI p) (nI l) := by
  sorry
theorem yb_function {p l h c : Nat} (hp1 : p < 24) (hl : l ≤ 800) (hh : h < 680) (hc : c < 740) (k2 : yk p = 7) (hp : post (ym, yd, li, nI (c + 1), wt, nI (h + 1), yl, ye, yk, pP, yn, pF, stk, me, mt, upd cl c (nI (32 * l + p)), wa, upd va h (nI c), upd ic h 1)) : wpY_begin post (ym, yd, li, nI c, wt, nI h, yl, ye, yk, pP, yn, pF, stk, me, mt, cl, wa, va, ic) (nI p) (nI l) := by
  sorry
theorem yb_node {p l q t : Nat} (hp1 : p < 24) (ht : t + 1 < 680) (k7 : ¬ yk p = 7) (k8 : ¬ yk p = 8) (k9 : ¬ yk p = 9) (kP : pP (3 * p) = nI q)
    (hp : post (ym, yd, li, yc, nI (t + 1 + 1), he, yl, ye, yk, pP, yn, pF, stk, me, mt, cl, upd (upd wa t (nI ((32 * l + p) * 4 + 1))) (t + 1) (nI ((32 * l + q) * 4 + 0)), va, ic)) : wpY_begin post (ym, yd, li, yc, nI t, he, yl, ye, yk, pP, yn, pF, stk, me, mt, cl, wa, va, ic) (nI p) (nI l) := by
  sorry
theorem yg_next {p l q t o : Nat} (hp1 : p < 24) (ht : t + 1 < 680) (ho : o < 5) (k2 : yk p = nI o) (kP : pP (3 * p + 1) = nI q)
    (hp : post (ym, yd, li, yc, nI (t + 1 + 1), he, yl, ye, yk, pP, yn, pF, stk, me, mt, cl, upd (upd wa t (nI ((32 * l + p) * 4 + 2))) (t + 1) (nI ((32 * l + q) * 4 + 0)), va, ic)) : wpY_goOn post (ym, yd, li, yc, nI t, he, yl, ye, yk, pP, yn, pF, stk, me, mt, cl, wa, va, ic) (nI p) (nI 1) (nI l) := by
  sorry
theorem yg_choose {p l q t h i : Nat} (hp1 : p < 24) (ht : t < 680) (hh : h < 680) (k2 : yk p = 5) (hi0 : ic h = 0) (hi : (¬ va h = 0 ∧ i = 1) ∨ (va h = 0 ∧ i = 2)) (kP : pP (3 * p + i) = nI q)
    (hp : post (ym, yd, li, yc, nI (t + 1), nI h, yl, ye, yk, pP, yn, pF, stk, me, mt, cl, upd wa t (nI ((32 * l + q) * 4 + 0)), va, ic)) : wpY_goOn post (ym, yd, li, yc, nI t, nI (h + 1), yl, ye, yk, pP, yn, pF, stk, me, mt, cl, wa, va, ic) (nI p) (nI 1) (nI l) := by
  sorry
theorem yg_choose0 {p l h : Nat} (hp1 : p < 24) (hh : h < 680) (k2 : yk p = 5) (hi0 : ¬ ic h = 0) (hp : post (ym, yd, li, yc, wt, nI h, yl, 2, yk, pP, yn, pF, stk, me, mt, cl, wa, va, ic)) : wpY_goOn post (ym, yd, li, yc, wt, nI (h + 1), yl, ye, yk, pP, yn, pF, stk, me, mt, cl, wa, va, ic) (nI p) (nI 1) (nI l) := by
  sorry
theorem yg_bind {p l q t h e w b : Nat} {x : Int32} (hp1 : p < 24) (ht : t < 680) (hh : h < 680) (he8 : e < 800) (hb : b < 2) (k2 : yk p = 6) (k4 : yn p = nI w) (hi : ic h = nI b) (hx : va h = x) (kP : pP (3 * p + 1) = nI q)
    (hp : post (ym, yd, nI (e + 1), yc, nI (t + 1), nI h, yl, ye, yk, pP, yn, pF, stk, upd me e (nI (8 * l + 2 * w + b)), upd mt e x, cl, upd wa t (nI ((32 * (e + 1) + q) * 4 + 0)), va, ic)) : wpY_goOn post (ym, yd, nI e, yc, nI t, nI (h + 1), yl, ye, yk, pP, yn, pF, stk, me, mt, cl, wa, va, ic) (nI p) (nI 1) (nI l) := by
  sorry
theorem yg_apply0 {p l h : Nat} (hp1 : p < 24) (hh : h + 1 < 680) (k2 : yk p = 4) (hi : ic h = 0) (hp : post (ym, yd, li, yc, wt, nI h, yl, 2, yk, pP, yn, pF, stk, me, mt, cl, wa, va, ic)) : wpY_goOn post (ym, yd, li, yc, wt, nI (h + 2), yl, ye, yk, pP, yn, pF, stk, me, mt, cl, wa, va, ic) (nI p) (nI 2) (nI l) := by
  sorry
theorem yg_apply1 {p l h ca : Nat} (hp1 : p < 24) (hh : h + 1 < 680) (hca : ca = 60) (k2 : yk p = 4) (hi : ic h = 1) (hp : post (ym, yd, li, yc, wt, nI h, nI ca, 3, yk, pP, yn, pF, stk, me, mt, cl, wa, va, ic)) : wpY_goOn post (ym, yd, li, yc, wt, nI (h + 2), nI ca, ye, yk, pP, yn, pF, stk, me, mt, cl, wa, va, ic) (nI p) (nI 2) (nI l) := by
  sorry
theorem yg_apply2 {p l h ca t e j p1 l1 f w b q : Nat} {x : Int32} (hp1 : p < 24) (hh : h + 1 < 680) (ht : t < 680) (hca : ca < 60) (he8 : e + 1 < 800) (hj : j < 740) (hp2 : p1 < 24 ∧ l1 ≤ 800) (hw : w < 4) (hf : f < 4) (hb : b < 2) (k2 : yk p = 4) (hi : ic h = 1) (hv : va h = nI j) (hc : cl j = nI (32 * l1 + p1))
    (hn : yn p1 = nI (4 * f + w)) (kP : pP (3 * p1) = nI q) (hi2 : ic (h + 1) = nI b) (hx : va (h + 1) = x)
    (hp : post (ym, yd, nI (e + 2), yc, nI (t + 1), nI h, nI (ca + 1), ye, yk, pP, yn, pF, stk, upd (upd me e (nI (8 * l1 + 2 * f + 1))) (e + 1) (nI (8 * (e + 1) + 2 * w + b)), upd (upd mt e (nI j)) (e + 1) x, cl, upd wa t (nI ((32 * (e + 2) + q) * 4 + 0)), va, ic)) :
    wpY_goOn post (ym, yd, nI e, yc, nI t, nI (h + 2), nI ca, ye, yk, pP, yn, pF, stk, me, mt, cl, wa, va, ic) (nI p) (nI 2) (nI l) := by
  sorry
theorem yg_arith {p l h o : Nat} {x y : Int32} (hp1 : p < 24) (hh : h + 1 < 680) (ho : o < 4) (k2 : yk p = nI o) (hi : ic h = 0) (hi2 : ic (h + 1) = 0) (hx : va h = x) (hy : va (h + 1) = y)
    (hp : post (ym, yd, li, yc, wt, nI (h + 1), yl, ye, yk, pP, yn, pF, stk, me, mt, cl, wa, upd va h (cc_ar o x y), upd ic h 0)) : wpY_goOn post (ym, yd, li, yc, wt, nI (h + 2), yl, ye, yk, pP, yn, pF, stk, me, mt, cl, wa, va, ic) (nI p) (nI 2) (nI l) := by
  sorry
theorem yg_arith0 {p l h o : Nat} (hp1 : p < 24) (hh : h + 1 < 680) (ho : o < 4) (k2 : yk p = nI o) (hi : ¬ (ic h = 0 ∧ ic (h + 1) = 0)) (hp : post (ym, yd, li, yc, wt, nI h, yl, 2, yk, pP, yn, pF, stk, me, mt, cl, wa, va, ic)) : wpY_goOn post (ym, yd, li, yc, wt, nI (h + 2), yl, ye, yk, pP, yn, pF, stk, me, mt, cl, wa, va, ic) (nI p) (nI 2) (nI l) := by
  sorry
end
