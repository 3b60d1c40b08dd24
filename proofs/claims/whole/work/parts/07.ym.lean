/-! Y's own methods, each with a general post -/
theorem cc_pkw (l p d : Nat) : (32 * nI l + nI p) * 4 + nI d = nI ((32 * l + p) * 4 + d) := by
  rw [show (32 : Int32) * nI l = nI (32 * l) from pk_mul 32 l, nI_add, show nI (32 * l + p) * 4 = nI ((32 * l + p) * 4) from pk_mul _ 4, nI_add]
theorem cc_pkc (l p : Nat) : 32 * nI l + nI p = nI (32 * l + p) := by
  rw [show (32 : Int32) * nI l = nI (32 * l) from pk_mul 32 l, nI_add]
theorem cc_pkm (l n b : Nat) : 8 * nI l + 2 * nI n + nI b = nI (8 * l + 2 * n + b) := by
  rw [show (8 : Int32) * nI l = nI (8 * l) from pk_mul 8 l, show (2 : Int32) * nI n = nI (2 * n) from pk_mul 2 n, nI_add, nI_add]
theorem cc_y3 (s v : Nat) : 3 * nI s + nI v = nI (3 * s + v) := by
  rw [show (3 : Int32) * nI s = nI (3 * s) from pk_mul 3 s, nI_add]
theorem cc_y30 (s : Nat) : 3 * nI s = nI (3 * s) := pk_mul 3 s
theorem cc_y4 (f w : Nat) : 4 * nI f + nI w = nI (4 * f + w) := by
  rw [show (4 : Int32) * nI f = nI (4 * f) from pk_mul 4 f, nI_add]
section
variable {ym yd li yc wt he yl ye : Int32} {yk pP yn pF stk me mt cl wa va ic : Nat → Int32} {post : SY → Prop} {posr : Int32 → SY → Prop} {pos : Int32 → Prop}
theorem yy_wait {t p dd l : Nat} (ht : t < 680) (hp : post (ym, yd, li, yc, nI (t + 1), he, yl, ye, yk, pP, yn, pF, stk, me, mt, cl, upd wa t (nI ((32 * l + p) * 4 + dd)), va, ic)) : wpY_wait post (ym, yd, li, yc, nI t, he, yl, ye, yk, pP, yn, pF, stk, me, mt, cl, wa, va, ic) (nI p) (nI dd) (nI l) := by
  have h1 : t < 2 ^ 31 := by omega
  have hv : vp_in (nI t) 680 := vp_in_nI ht (by decide)
  simp only [wpY_wait, forall_eq, nI_1, nI_clamp h1, cc_pkw, hv, true_and]
  exact hp
theorem yy_hold {h : Nat} {k w : Int32} (hh : h < 680) (hk : k = 0 ∨ k = 1) (hp : post (ym, yd, li, yc, wt, nI (h + 1), yl, ye, yk, pP, yn, pF, stk, me, mt, cl, wa, upd va h w, upd ic h k)) : wpY_hold post (ym, yd, li, yc, wt, nI h, yl, ye, yk, pP, yn, pF, stk, me, mt, cl, wa, va, ic) k w := by
  have h1 : h < 2 ^ 31 := by omega
  have hv : vp_in (nI h) 680 := vp_in_nI hh (by decide)
  have hn : vp_nar .boolean k = k := by
    rcases hk with hk | hk <;> subst hk <;> rfl
  simp only [wpY_hold, forall_eq, nI_1, nI_clamp h1, hn, hv, true_and]
  exact hp
theorem yy_mean {e l n b : Nat} {w : Int32} (he1 : e < 800) (hb : b < 2) (hp : posr (nI (e + 1)) (ym, yd, nI (e + 1), yc, wt, he, yl, ye, yk, pP, yn, pF, stk, upd me e (nI (8 * l + 2 * n + b)), upd mt e w, cl, wa, va, ic)) : wpY_mean posr (ym, yd, nI e, yc, wt, he, yl, ye, yk, pP, yn, pF, stk, me, mt, cl, wa, va, ic) (nI l) (nI n) (nI b) w := by
  have h1 : e < 2 ^ 31 := by omega
  have hv : vp_in (nI e) 800 := vp_in_nI he1 (by decide)
  have core : wY_mean_25 posr w (nI b) (8 * nI l + 2 * nI n) (nI e) ym yd (nI e) yc wt he yl ye yk pP yn pF stk me mt cl wa va ic := by
    simp only [wY_mean_25, forall_eq, cc_pkm, nI_clamp h1, nI_1, hv, true_and]
    exact hp
  unfold wpY_mean
  dsimp only
  obtain rfl | rfl : b = 0 ∨ b = 1 := by omega
  · exact br_t nI_0 core
  · exact br_f (by decide) core
theorem cc_y31 (s : Nat) : 3 * nI s + 1 = nI (3 * s + 1) := cc_y3 s 1
theorem cc_ko4 : ∀ o, o < 4 → ¬ nI o = 4 := by decide +kernel
theorem yy_look {w e c : Nat} {ek ew : Nat → Nat → Int32} (hw : w < 4) (hE : cc_E e c me mt ek ew) (he8 : e < 800) {h : Nat} (hh : h < 680) : ∀ at' : Nat, at' ≤ e → ∀ n : Nat, at' < n → (ek at' w = -1 → post (ym, yd, li, yc, wt, nI h, yl, 2, yk, pP, yn, pF, stk, me, mt, cl, wa, va, ic)) → (¬ ek at' w = -1 → post (ym, yd, li, yc, wt, nI (h + 1), yl, ye, yk, pP, yn, pF, stk, me, mt, cl, wa, upd va h (ew at' w), upd ic h (ek at' w))) →
    wY_lookUp_2 post (nI w) ym yd li yc wt (nI h) yl ye yk pP yn pF stk me mt cl wa va ic n (nI at') := by
  intro at'
  induction at' using Nat.strongRecOn with
  | ind at' ih =>
    intro hat n hn H0 H1
    obtain ⟨n, rfl⟩ : ∃ k, n = k + 1 := ⟨n - 1, by omega⟩
    cases at' with
    | zero => exact br_t (by decide) (br_t nI_0 (H0 (hE.1 w hw)))
    | succ k =>
      obtain ⟨l, nn, b, q1, q2, q3, q4, q5⟩ := hE.2.1 k (by omega)
      obtain ⟨r1, r2⟩ := q5 w hw
      have hk : k < 2 ^ 31 := by omega
      have hv : vp_in (nI (k + 1) - 1) 800 := by rw [nI_pred]; exact vp_in_nI (by omega) (by decide)
      have em : me (nI (k + 1) - 1).toNatClampNeg = nI (8 * l + 2 * nn + b) := by rw [nI_pred, nI_clamp hk]; exact q4
      have et : mt (nI (k + 1) - 1).toNatClampNeg = mt k := by rw [nI_pred, nI_clamp hk]
      have e1 := cc_mn (l := l) (n := nn) (b := b) (by omega) q2 q3
      have e2 := cc_ml (l := l) (n := nn) (b := b) (by omega) q2 q3
      have e3 := cc_mb (l := l) (n := nn) (b := b) (by omega) q2 q3
      rw [← em] at e1 e2 e3
      have hnn : nI nn = nI w ↔ nn = w := nI_eq (by omega) (by omega)
      refine br_f (nI_nle (by omega) (by omega)) ⟨hv, by decide, by decide, br_c (fun z => ?_) (fun z => ?_)⟩
      · have hw2 : w = nn := (hnn.mp (e1.symm.trans z)).symm
        rw [if_pos hw2] at r1 r2
        have core : wY_lookUp_69 post (nI (k + 1)) (nI b) ym yd li yc wt (nI h) yl ye yk pP yn pF stk me mt cl wa va ic := by
          refine ⟨hv, ?_⟩
          rw [et]
          have nb : ¬ nI b = -1 := by
            obtain rfl | rfl : b = 0 ∨ b = 1 := by omega
            · decide
            · decide
          have nb2 : nI b = 0 ∨ nI b = 1 := by
            obtain rfl | rfl : b = 0 ∨ b = 1 := by omega
            · exact Or.inl rfl
            · exact Or.inr rfl
          have H2 := H1 (by rw [r1]; exact nb)
          rw [r1, r2] at H2
          exact yy_hold hh nb2 H2
        refine br_f (nI_ne0 (by omega) (by omega)) ⟨hv, by decide, ?_⟩
        obtain rfl | rfl : b = 0 ∨ b = 1 := by omega
        · exact br_f (fun z => absurd (e3.symm.trans z) (by decide)) core
        · exact br_t e3 core
      · have hw2 : ¬ w = nn := fun z2 => z (e1.trans (hnn.mpr z2.symm))
        rw [if_neg hw2] at r1 r2
        rw [r1] at H0 H1
        rw [r2] at H1
        exact ⟨hv, by decide, nm_r e2 (ih l (by omega) (by omega) n (by omega) H0 H1)⟩
theorem yy_lookUp0 {l w e c : Nat} {ek ew : Nat → Nat → Int32} {h : Nat} (hh : h < 680) (hw : w < 4) (hE : cc_E e c me mt ek ew) (hl : l ≤ e) (he8 : e < 800) (hk : ek l w = -1) (hp : post (ym, yd, li, yc, wt, nI h, yl, 2, yk, pP, yn, pF, stk, me, mt, cl, wa, va, ic)) : wpY_lookUp post (ym, yd, li, yc, wt, nI h, yl, ye, yk, pP, yn, pF, stk, me, mt, cl, wa, va, ic) (nI w) (nI l) := by
  exact ⟨l + 1, yy_look hw hE he8 hh l hl (l + 1) (Nat.lt_succ_self l) (fun _ => hp) (fun z => absurd hk z)⟩
theorem yy_lookUp1 {l w e c h : Nat} {ek ew : Nat → Nat → Int32} (hw : w < 4) (hE : cc_E e c me mt ek ew) (hl : l ≤ e) (he8 : e < 800) (hh : h < 680) (hk : ¬ ek l w = -1) (hp : post (ym, yd, li, yc, wt, nI (h + 1), yl, ye, yk, pP, yn, pF, stk, me, mt, cl, wa, upd va h (ew l w), upd ic h (ek l w))) : wpY_lookUp post (ym, yd, li, yc, wt, nI h, yl, ye, yk, pP, yn, pF, stk, me, mt, cl, wa, va, ic) (nI w) (nI l) := by
  exact ⟨l + 1, yy_look hw hE he8 hh l hl (l + 1) (Nat.lt_succ_self l) (fun z => absurd z hk) (fun _ => hp)⟩
theorem yy_operate {h o : Nat} {x y : Int32} (hh : h + 1 < 680) (ho : o < 4) (hi : ic h = 0) (hi2 : ic (h + 1) = 0) (hx : va h = x) (hy : va (h + 1) = y)
    (hp : post (ym, yd, li, yc, wt, nI (h + 1), yl, ye, yk, pP, yn, pF, stk, me, mt, cl, wa, upd va h (cc_ar o x y), upd ic h 0)) : wpY_operate post (ym, yd, li, yc, wt, nI (h + 2), yl, ye, yk, pP, yn, pF, stk, me, mt, cl, wa, va, ic) (nI o) := by
  have h1 : h < 2 ^ 31 := by omega
  have h2 : h + 1 < 2 ^ 31 := by omega
  have hv1 : vp_in (nI h) 680 := vp_in_nI (by omega) (by decide)
  have hv2 : vp_in (nI (h + 1)) 680 := vp_in_nI (by omega) (by decide)
  simp only [wpY_operate, forall_eq, cc_p2, nI_1, nI_clamp h1, nI_clamp h2, hv1, hv2, hx, hy, true_and]
  refine br_t hi (br_t hi2 ?_)
  match o, ho with
  | 0, _ => exact br_t rfl (yy_hold (by omega) (Or.inl rfl) hp)
  | 1, _ => exact br_f (by decide) (br_t rfl (yy_hold (by omega) (Or.inl rfl) hp))
  | 2, _ => exact br_f (by decide) (br_f (by decide) (br_t rfl (yy_hold (by omega) (Or.inl rfl) hp)))
  | 3, _ =>
    refine br_f (by decide) (br_f (by decide) (br_f (by decide) ?_))
    have e : cc_ar 3 x y = if x < y then 1 else 0 := rfl
    rw [e] at hp
    refine br_c (fun z => ?_) (fun z => ?_)
    · rw [if_neg (Int32.not_lt.mpr z)] at hp; exact yy_hold (by omega) (Or.inl rfl) hp
    · rw [if_pos (Int32.not_le.mp z)] at hp; exact yy_hold (by omega) (Or.inl rfl) hp
theorem yy_operate0 {h : Nat} {o : Int32} (hh : h + 1 < 680) (hi : ¬ (ic h = 0 ∧ ic (h + 1) = 0)) (hp : post (ym, yd, li, yc, wt, nI h, yl, 2, yk, pP, yn, pF, stk, me, mt, cl, wa, va, ic)) : wpY_operate post (ym, yd, li, yc, wt, nI (h + 2), yl, ye, yk, pP, yn, pF, stk, me, mt, cl, wa, va, ic) o := by
  have h1 : h < 2 ^ 31 := by omega
  have h2 : h + 1 < 2 ^ 31 := by omega
  have hv1 : vp_in (nI h) 680 := vp_in_nI (by omega) (by decide)
  have hv2 : vp_in (nI (h + 1)) 680 := vp_in_nI (by omega) (by decide)
  simp only [wpY_operate, forall_eq, cc_p2, nI_1, nI_clamp h1, nI_clamp h2, hv1, hv2, true_and]
  by_cases hk1 : ic h = 0
  · exact br_t hk1 (br_f (fun z => hi ⟨hk1, z⟩) hp)
  · exact br_f hk1 hp
theorem yy_call0 {h : Nat} (hh : h + 1 < 680) (hi : ic h = 0) (hp : post (ym, yd, li, yc, wt, nI h, yl, 2, yk, pP, yn, pF, stk, me, mt, cl, wa, va, ic)) : wpY_call post (ym, yd, li, yc, wt, nI (h + 2), yl, ye, yk, pP, yn, pF, stk, me, mt, cl, wa, va, ic) := by
  have h1 : h < 2 ^ 31 := by omega
  have hv1 : vp_in (nI h) 680 := vp_in_nI (by omega) (by decide)
  simp only [wpY_call, forall_eq, cc_p2, nI_clamp h1, hv1, true_and]
  exact br_t hi hp
theorem yy_call1 {h ca : Nat} (hh : h + 1 < 680) (hca : ca = 60) (hi : ic h = 1) (hp : post (ym, yd, li, yc, wt, nI h, nI ca, 3, yk, pP, yn, pF, stk, me, mt, cl, wa, va, ic)) : wpY_call post (ym, yd, li, yc, wt, nI (h + 2), nI ca, ye, yk, pP, yn, pF, stk, me, mt, cl, wa, va, ic) := by
  have h1 : h < 2 ^ 31 := by omega
  have hv1 : vp_in (nI h) 680 := vp_in_nI (by omega) (by decide)
  simp only [wpY_call, forall_eq, cc_p2, nI_clamp h1, hv1, true_and]
  refine br_f (by rw [hi]; decide) (br_t ?_ hp)
  rw [hca]; decide
theorem yy_call2 {h ca t e j p1 l1 f w b q : Nat} {x : Int32} (hh : h + 1 < 680) (ht : t < 680) (hca : ca < 60) (he8 : e + 1 < 800) (hj : j < 740) (hp2 : p1 < 24 ∧ l1 ≤ 800) (hw : w < 4) (hf : f < 4) (hb : b < 2) (hi : ic h = 1) (hv : va h = nI j) (hc : cl j = nI (32 * l1 + p1))
    (hn : yn p1 = nI (4 * f + w)) (kP : pP (3 * p1) = nI q) (hi2 : ic (h + 1) = nI b) (hx : va (h + 1) = x)
    (hp : post (ym, yd, nI (e + 2), yc, nI (t + 1), nI h, nI (ca + 1), ye, yk, pP, yn, pF, stk, upd (upd me e (nI (8 * l1 + 2 * f + 1))) (e + 1) (nI (8 * (e + 1) + 2 * w + b)), upd (upd mt e (nI j)) (e + 1) x, cl, upd wa t (nI ((32 * (e + 2) + q) * 4 + 0)), va, ic)) :
    wpY_call post (ym, yd, nI e, yc, nI t, nI (h + 2), nI ca, ye, yk, pP, yn, pF, stk, me, mt, cl, wa, va, ic) := by
  have h1 : h < 2 ^ 31 := by omega
  have h2 : h + 1 < 2 ^ 31 := by omega
  have h3 : j < 2 ^ 31 := by omega
  have h4 : p1 < 2 ^ 31 := by omega
  have h5 : 3 * p1 < 2 ^ 31 := by omega
  have hv1 : vp_in (nI h) 680 := vp_in_nI (by omega) (by decide)
  have hv2 : vp_in (nI (h + 1)) 680 := vp_in_nI (by omega) (by decide)
  have hv3 : vp_in (nI j) 740 := vp_in_nI hj (by decide)
  have hv4 : vp_in (nI p1) 24 := vp_in_nI hp2.1 (by decide)
  have hv5 : vp_in (nI (3 * p1)) 72 := vp_in_nI (by omega) (by decide)
  have e1 := cc_kp (l := l1) (p := p1) hp2.2 hp2.1
  have e2 := cc_kl (l := l1) (p := p1) hp2.2 hp2.1
  rw [e2] at e1
  have e3 := cc_nf hf hw
  have e4 := cc_nw hf hw
  have z4 : ¬ (4 : Int32) = 0 := by decide
  have z32 : ¬ (32 : Int32) = 0 := by decide
  simp only [wpY_call, forall_eq, cc_p2, nI_1, nI_clamp h1, hv1, hv, hv3, nI_clamp h3, hc, e1, e2, nI_clamp h4, hv4, hn, e3, z4, z32, not_false_eq_true, true_and]
  refine br_f (by rw [hi]; decide) (br_f (fun z => absurd ((nI_eq (b := 60) (by omega) (by omega)).mp z) (by omega)) (yy_mean (b := 1) (by omega) (by omega) ?_))
  simp only [nI_1, nI_clamp h4, nI_clamp h2, hv4, hv2, hn, e4, hi2, hx, z4, not_false_eq_true, true_and]
  refine yy_mean he8 hb ?_
  simp only [cc_y30, nI_clamp h5, hv5, kP, true_and]
  exact yy_wait (dd := 0) ht hp
theorem yb_number {p h l : Nat} {x : Int32} (hp1 : p < 24) (hh : h < 680) (k2 : yk p = 8) (k3 : yn p = x) (hp : post (ym, yd, li, yc, wt, nI (h + 1), yl, ye, yk, pP, yn, pF, stk, me, mt, cl, wa, upd va h x, upd ic h 0)) : wpY_begin post (ym, yd, li, yc, wt, nI h, yl, ye, yk, pP, yn, pF, stk, me, mt, cl, wa, va, ic) (nI p) (nI l) := by
  have h2 : p < 2 ^ 31 := by omega
  have hv2 : vp_in (nI p) 24 := vp_in_nI hp1 (by decide)
  simp only [wpY_begin, forall_eq, nI_clamp h2, hv2, k3, true_and]
  rw [k2]
  exact br_t rfl (yy_hold hh (Or.inl rfl) hp)
theorem yb_name0 {p l w e c h : Nat} {ek ew : Nat → Nat → Int32} (hp1 : p < 24) (hw : w < 4) (hE : cc_E e c me mt ek ew) (hl : l ≤ e) (he8 : e < 800) (hh : h < 680) (k2 : yk p = 9) (k4 : yn p = nI w) (hk : ek l w = -1) (hp : post (ym, yd, li, yc, wt, nI h, yl, 2, yk, pP, yn, pF, stk, me, mt, cl, wa, va, ic)) : wpY_begin post (ym, yd, li, yc, wt, nI h, yl, ye, yk, pP, yn, pF, stk, me, mt, cl, wa, va, ic) (nI p) (nI l) := by
  have h2 : p < 2 ^ 31 := by omega
  have hv2 : vp_in (nI p) 24 := vp_in_nI hp1 (by decide)
  simp only [wpY_begin, forall_eq, nI_clamp h2, hv2, k4, true_and]
  rw [k2]
  exact br_f (by decide) (br_t rfl (yy_lookUp0 hh hw hE hl he8 hk hp))
theorem yb_name1 {p l w e c h : Nat} {ek ew : Nat → Nat → Int32} (hp1 : p < 24) (hw : w < 4) (hE : cc_E e c me mt ek ew) (hl : l ≤ e) (he8 : e < 800) (hh : h < 680) (k2 : yk p = 9) (k4 : yn p = nI w) (hk : ¬ ek l w = -1) (hp : post (ym, yd, li, yc, wt, nI (h + 1), yl, ye, yk, pP, yn, pF, stk, me, mt, cl, wa, upd va h (ew l w), upd ic h (ek l w))) : wpY_begin post (ym, yd, li, yc, wt, nI h, yl, ye, yk, pP, yn, pF, stk, me, mt, cl, wa, va, ic) (nI p) (nI l) := by
  have h2 : p < 2 ^ 31 := by omega
  have hv2 : vp_in (nI p) 24 := vp_in_nI hp1 (by decide)
  simp only [wpY_begin, forall_eq, nI_clamp h2, hv2, k4, true_and]
  rw [k2]
  exact br_f (by decide) (br_t rfl (yy_lookUp1 hw hE hl he8 hh hk hp))
theorem yb_function {p l h c : Nat} (hp1 : p < 24) (hl : l ≤ 800) (hh : h < 680) (hc : c < 740) (k2 : yk p = 7) (hp : post (ym, yd, li, nI (c + 1), wt, nI (h + 1), yl, ye, yk, pP, yn, pF, stk, me, mt, upd cl c (nI (32 * l + p)), wa, upd va h (nI c), upd ic h 1)) : wpY_begin post (ym, yd, li, nI c, wt, nI h, yl, ye, yk, pP, yn, pF, stk, me, mt, cl, wa, va, ic) (nI p) (nI l) := by
  have h2 : p < 2 ^ 31 := by omega
  have hv2 : vp_in (nI p) 24 := vp_in_nI hp1 (by decide)
  have h3 : c < 2 ^ 31 := by omega
  have hv3 : vp_in (nI c) 740 := vp_in_nI hc (by decide)
  simp only [wpY_begin, forall_eq, nI_clamp h2, nI_clamp h3, cc_pkc, hv2, hv3, true_and]
  rw [k2]
  refine br_f (by decide) (br_f (by decide) (br_t rfl (yy_hold hh (Or.inr rfl) ?_)))
  simp only [nI_1]
  exact hp
theorem yb_node {p l q t : Nat} (hp1 : p < 24) (ht : t + 1 < 680) (k7 : ¬ yk p = 7) (k8 : ¬ yk p = 8) (k9 : ¬ yk p = 9) (kP : pP (3 * p) = nI q)
    (hp : post (ym, yd, li, yc, nI (t + 1 + 1), he, yl, ye, yk, pP, yn, pF, stk, me, mt, cl, upd (upd wa t (nI ((32 * l + p) * 4 + 1))) (t + 1) (nI ((32 * l + q) * 4 + 0)), va, ic)) : wpY_begin post (ym, yd, li, yc, nI t, he, yl, ye, yk, pP, yn, pF, stk, me, mt, cl, wa, va, ic) (nI p) (nI l) := by
  have h2 : p < 2 ^ 31 := by omega
  have hv2 : vp_in (nI p) 24 := vp_in_nI hp1 (by decide)
  have h3 : 3 * p < 2 ^ 31 := by omega
  have hv3 : vp_in (nI (3 * p)) 72 := vp_in_nI (by omega) (by decide)
  simp only [wpY_begin, forall_eq, nI_clamp h2, hv2, true_and]
  refine br_f k8 (br_f k9 (br_f k7 (yy_wait (dd := 1) (by omega) ?_)))
  simp only [cc_y30, nI_clamp h3, hv3, kP, true_and]
  exact yy_wait (dd := 0) ht hp
theorem yg_next {p l q t o : Nat} (hp1 : p < 24) (ht : t + 1 < 680) (ho : o < 5) (k2 : yk p = nI o) (kP : pP (3 * p + 1) = nI q)
    (hp : post (ym, yd, li, yc, nI (t + 1 + 1), he, yl, ye, yk, pP, yn, pF, stk, me, mt, cl, upd (upd wa t (nI ((32 * l + p) * 4 + 2))) (t + 1) (nI ((32 * l + q) * 4 + 0)), va, ic)) : wpY_goOn post (ym, yd, li, yc, nI t, he, yl, ye, yk, pP, yn, pF, stk, me, mt, cl, wa, va, ic) (nI p) (nI 1) (nI l) := by
  have h2 : p < 2 ^ 31 := by omega
  have hv2 : vp_in (nI p) 24 := vp_in_nI hp1 (by decide)
  have h3 : 3 * p + 1 < 2 ^ 31 := by omega
  have hv3 : vp_in (nI (3 * p + 1)) 72 := vp_in_nI (by omega) (by decide)
  obtain ⟨o5, o6, o7, o8, o9⟩ := cc_ko o ho
  have o5' : ¬ yk p = 5 := by rw [k2]; exact o5
  have o6' : ¬ yk p = 6 := by rw [k2]; exact o6
  simp only [wpY_goOn, forall_eq, nI_clamp h2, hv2, true_and]
  refine br_f o5' (br_f o6' (br_t rfl (yy_wait (dd := 2) (by omega) ?_)))
  simp only [cc_y31, nI_clamp h3, hv3, kP, true_and]
  exact yy_wait (dd := 0) ht hp
theorem yg_choose {p l q t h i : Nat} (hp1 : p < 24) (ht : t < 680) (hh : h < 680) (k2 : yk p = 5) (hi0 : ic h = 0) (hi : (¬ va h = 0 ∧ i = 1) ∨ (va h = 0 ∧ i = 2)) (kP : pP (3 * p + i) = nI q)
    (hp : post (ym, yd, li, yc, nI (t + 1), nI h, yl, ye, yk, pP, yn, pF, stk, me, mt, cl, upd wa t (nI ((32 * l + q) * 4 + 0)), va, ic)) : wpY_goOn post (ym, yd, li, yc, nI t, nI (h + 1), yl, ye, yk, pP, yn, pF, stk, me, mt, cl, wa, va, ic) (nI p) (nI 1) (nI l) := by
  have h2 : p < 2 ^ 31 := by omega
  have hv2 : vp_in (nI p) 24 := vp_in_nI hp1 (by decide)
  have h1 : h < 2 ^ 31 := by omega
  have hv1 : vp_in (nI h) 680 := vp_in_nI hh (by decide)
  have core : wY_goOn_69 post (nI l) (nI i) (3 * nI p) ym yd li yc (nI t) (nI h) yl ye yk pP yn pF stk me mt cl wa va ic := by
    have h3 : 3 * p + i < 2 ^ 31 := by omega
    have hv3 : vp_in (nI (3 * p + i)) 72 := vp_in_nI (by omega) (by decide)
    simp only [wY_goOn_69, cc_y3, nI_clamp h3, hv3, kP, true_and]
    exact yy_wait (dd := 0) ht hp
  simp only [wpY_goOn, forall_eq, nI_pred, nI_clamp h1, nI_clamp h2, hv1, hv2, true_and]
  refine br_t k2 (br_t hi0 ?_)
  rcases hi with ⟨a, rfl⟩ | ⟨a, rfl⟩
  · exact br_f a core
  · exact br_t a core
theorem yg_choose0 {p l h : Nat} (hp1 : p < 24) (hh : h < 680) (k2 : yk p = 5) (hi0 : ¬ ic h = 0) (hp : post (ym, yd, li, yc, wt, nI h, yl, 2, yk, pP, yn, pF, stk, me, mt, cl, wa, va, ic)) : wpY_goOn post (ym, yd, li, yc, wt, nI (h + 1), yl, ye, yk, pP, yn, pF, stk, me, mt, cl, wa, va, ic) (nI p) (nI 1) (nI l) := by
  have h2 : p < 2 ^ 31 := by omega
  have hv2 : vp_in (nI p) 24 := vp_in_nI hp1 (by decide)
  have h1 : h < 2 ^ 31 := by omega
  have hv1 : vp_in (nI h) 680 := vp_in_nI hh (by decide)
  simp only [wpY_goOn, forall_eq, nI_pred, nI_clamp h1, nI_clamp h2, hv1, hv2, true_and]
  exact br_t k2 (br_f hi0 hp)
theorem yg_bind {p l q t h e w b : Nat} {x : Int32} (hp1 : p < 24) (ht : t < 680) (hh : h < 680) (he8 : e < 800) (hb : b < 2) (k2 : yk p = 6) (k4 : yn p = nI w) (hi : ic h = nI b) (hx : va h = x) (kP : pP (3 * p + 1) = nI q)
    (hp : post (ym, yd, nI (e + 1), yc, nI (t + 1), nI h, yl, ye, yk, pP, yn, pF, stk, upd me e (nI (8 * l + 2 * w + b)), upd mt e x, cl, upd wa t (nI ((32 * (e + 1) + q) * 4 + 0)), va, ic)) : wpY_goOn post (ym, yd, nI e, yc, nI t, nI (h + 1), yl, ye, yk, pP, yn, pF, stk, me, mt, cl, wa, va, ic) (nI p) (nI 1) (nI l) := by
  have h2 : p < 2 ^ 31 := by omega
  have hv2 : vp_in (nI p) 24 := vp_in_nI hp1 (by decide)
  have h1 : h < 2 ^ 31 := by omega
  have hv1 : vp_in (nI h) 680 := vp_in_nI hh (by decide)
  have h3 : 3 * p + 1 < 2 ^ 31 := by omega
  have hv3 : vp_in (nI (3 * p + 1)) 72 := vp_in_nI (by omega) (by decide)
  simp only [wpY_goOn, forall_eq, nI_pred, nI_clamp h1, nI_clamp h2, hv1, hv2, k4, hi, hx, true_and]
  refine br_f (by rw [k2]; decide) (br_t k2 (yy_mean he8 hb ?_))
  simp only [cc_y31, nI_clamp h3, hv3, kP, true_and]
  exact yy_wait (dd := 0) ht hp
theorem yg_apply0 {p l h : Nat} (hp1 : p < 24) (hh : h + 1 < 680) (k2 : yk p = 4) (hi : ic h = 0) (hp : post (ym, yd, li, yc, wt, nI h, yl, 2, yk, pP, yn, pF, stk, me, mt, cl, wa, va, ic)) : wpY_goOn post (ym, yd, li, yc, wt, nI (h + 2), yl, ye, yk, pP, yn, pF, stk, me, mt, cl, wa, va, ic) (nI p) (nI 2) (nI l) := by
  have h2 : p < 2 ^ 31 := by omega
  have hv2 : vp_in (nI p) 24 := vp_in_nI hp1 (by decide)
  simp only [wpY_goOn, forall_eq, nI_clamp h2, hv2, true_and]
  rw [k2]
  exact br_f (by decide) (br_f (by decide) (br_f (by decide) (br_t rfl (yy_call0 hh hi hp))))
theorem yg_apply1 {p l h ca : Nat} (hp1 : p < 24) (hh : h + 1 < 680) (hca : ca = 60) (k2 : yk p = 4) (hi : ic h = 1) (hp : post (ym, yd, li, yc, wt, nI h, nI ca, 3, yk, pP, yn, pF, stk, me, mt, cl, wa, va, ic)) : wpY_goOn post (ym, yd, li, yc, wt, nI (h + 2), nI ca, ye, yk, pP, yn, pF, stk, me, mt, cl, wa, va, ic) (nI p) (nI 2) (nI l) := by
  have h2 : p < 2 ^ 31 := by omega
  have hv2 : vp_in (nI p) 24 := vp_in_nI hp1 (by decide)
  simp only [wpY_goOn, forall_eq, nI_clamp h2, hv2, true_and]
  rw [k2]
  exact br_f (by decide) (br_f (by decide) (br_f (by decide) (br_t rfl (yy_call1 hh hca hi hp))))
theorem yg_apply2 {p l h ca t e j p1 l1 f w b q : Nat} {x : Int32} (hp1 : p < 24) (hh : h + 1 < 680) (ht : t < 680) (hca : ca < 60) (he8 : e + 1 < 800) (hj : j < 740) (hp2 : p1 < 24 ∧ l1 ≤ 800) (hw : w < 4) (hf : f < 4) (hb : b < 2) (k2 : yk p = 4) (hi : ic h = 1) (hv : va h = nI j) (hc : cl j = nI (32 * l1 + p1))
    (hn : yn p1 = nI (4 * f + w)) (kP : pP (3 * p1) = nI q) (hi2 : ic (h + 1) = nI b) (hx : va (h + 1) = x)
    (hp : post (ym, yd, nI (e + 2), yc, nI (t + 1), nI h, nI (ca + 1), ye, yk, pP, yn, pF, stk, upd (upd me e (nI (8 * l1 + 2 * f + 1))) (e + 1) (nI (8 * (e + 1) + 2 * w + b)), upd (upd mt e (nI j)) (e + 1) x, cl, upd wa t (nI ((32 * (e + 2) + q) * 4 + 0)), va, ic)) :
    wpY_goOn post (ym, yd, nI e, yc, nI t, nI (h + 2), nI ca, ye, yk, pP, yn, pF, stk, me, mt, cl, wa, va, ic) (nI p) (nI 2) (nI l) := by
  have h2 : p < 2 ^ 31 := by omega
  have hv2 : vp_in (nI p) 24 := vp_in_nI hp1 (by decide)
  simp only [wpY_goOn, forall_eq, nI_clamp h2, hv2, true_and]
  rw [k2]
  exact br_f (by decide) (br_f (by decide) (br_f (by decide) (br_t rfl (yy_call2 hh ht hca he8 hj hp2 hw hf hb hi hv hc hn kP hi2 hx hp))))
theorem yg_arith {p l h o : Nat} {x y : Int32} (hp1 : p < 24) (hh : h + 1 < 680) (ho : o < 4) (k2 : yk p = nI o) (hi : ic h = 0) (hi2 : ic (h + 1) = 0) (hx : va h = x) (hy : va (h + 1) = y)
    (hp : post (ym, yd, li, yc, wt, nI (h + 1), yl, ye, yk, pP, yn, pF, stk, me, mt, cl, wa, upd va h (cc_ar o x y), upd ic h 0)) : wpY_goOn post (ym, yd, li, yc, wt, nI (h + 2), yl, ye, yk, pP, yn, pF, stk, me, mt, cl, wa, va, ic) (nI p) (nI 2) (nI l) := by
  have h2 : p < 2 ^ 31 := by omega
  have hv2 : vp_in (nI p) 24 := vp_in_nI hp1 (by decide)
  obtain ⟨o5, o6, o7, o8, o9⟩ := cc_ko o (by omega)
  have o4 : ¬ nI o = 4 := (cc_ko4 o ho)
  simp only [wpY_goOn, forall_eq, nI_clamp h2, hv2, true_and]
  rw [k2]
  exact br_f o5 (br_f o6 (br_f (by decide) (br_f o4 (yy_operate hh ho hi hi2 hx hy hp))))
theorem yg_arith0 {p l h o : Nat} (hp1 : p < 24) (hh : h + 1 < 680) (ho : o < 4) (k2 : yk p = nI o) (hi : ¬ (ic h = 0 ∧ ic (h + 1) = 0)) (hp : post (ym, yd, li, yc, wt, nI h, yl, 2, yk, pP, yn, pF, stk, me, mt, cl, wa, va, ic)) : wpY_goOn post (ym, yd, li, yc, wt, nI (h + 2), yl, ye, yk, pP, yn, pF, stk, me, mt, cl, wa, va, ic) (nI p) (nI 2) (nI l) := by
  have h2 : p < 2 ^ 31 := by omega
  have hv2 : vp_in (nI p) 24 := vp_in_nI hp1 (by decide)
  obtain ⟨o5, o6, o7, o8, o9⟩ := cc_ko o (by omega)
  have o4 : ¬ nI o = 4 := (cc_ko4 o ho)
  simp only [wpY_goOn, forall_eq, nI_clamp h2, hv2, true_and]
  rw [k2]
  exact br_f o5 (br_f o6 (br_f (by decide) (br_f o4 (yy_operate0 hh hi hp))))
end
