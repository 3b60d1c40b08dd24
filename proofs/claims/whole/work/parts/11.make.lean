/-! making programs -/
theorem cc_sub (b n : Nat) : nI (b + n) - nI n = nI b := by
  rw [pk_sub (Nat.le_add_left n b), Nat.add_sub_cancel]
def cc_fa (pF stk : Nat → Int32) (d i : Nat) : Int32 := if i < d then pF (stk (d - 1 - i)).toNatClampNeg else 0
theorem cc_fa_at {pF stk : Nat → Int32} {d i j q : Nat} (hi : i < d) (hj : d - 1 - i = j) (hq : q < 24) (e : stk j = nI q) : cc_fa pF stk d i = pF q := by
  unfold cc_fa
  rw [if_pos hi, hj, e, nI_clamp (by omega)]
theorem cc_ge (v : Int32) {n : Nat} (hn : n < 2 ^ 30) (h : nI (n + 1) ≤ v) : nI n < v := by
  rw [Int32.lt_iff_toInt_lt, nI_toInt (by omega)]
  rw [Int32.le_iff_toInt_le, nI_toInt (by omega)] at h
  omega
section
variable {mC sS tC rC sC cC kC en : Int32} {pK pD pS pP pF stk tP tS tD rK rV mK mV cP cS : Nat → Int32} {post : SX → Prop} {posr : Int32 → SX → Prop} {pos : Int32 → Prop}
theorem xf_part {m i q : Nat} (hm : m < 24) (hi : i < 3) (hq : q < 24) (e : pP (3 * m + i) = nI q) (hp : pos (pF q)) : wpX_freeNamesOfPart pos (mC, sS, tC, rC, sC, cC, kC, en, pK, pD, pS, pP, pF, stk, tP, tS, tD, rK, rV, mK, mV, cP, cS) (nI m) (nI i) := by
  have h1 : 3 * m + i < 2 ^ 31 := by omega
  have h2 : q < 2 ^ 31 := by omega
  have hv1 : vp_in (nI (3 * m + i)) 72 := vp_in_nI (by omega) (by decide)
  have hv2 : vp_in (nI q) 24 := vp_in_nI hq (by decide)
  simp only [wpX_freeNamesOfPart, cc_x3, nI_clamp h1, e, nI_clamp h2, hv1, hv2, true_and]
  exact hp
theorem xf_number {m : Nat} (hm : m < 24) (k : pK m = 5) (hp : pos 0) : wpX_findFreeNames pos (mC, sS, tC, rC, sC, cC, kC, en, pK, pD, pS, pP, pF, stk, tP, tS, tD, rK, rV, mK, mV, cP, cS) (nI m) := by
  have h1 : m < 2 ^ 31 := by omega
  have hv1 : vp_in (nI m) 24 := vp_in_nI hm (by decide)
  simp only [wpX_findFreeNames, forall_eq, nI_clamp h1, hv1, true_and]
  rw [k]
  exact br_f (by decide) (br_f (by decide) (br_t rfl hp))
theorem xf_name {m : Nat} {x : Int32} (hm : m < 24) (k : pK m = 6) (hx : pD m = x) (hp : pos ((1 : Int32) <<< (x &&& 31))) : wpX_findFreeNames pos (mC, sS, tC, rC, sC, cC, kC, en, pK, pD, pS, pP, pF, stk, tP, tS, tD, rK, rV, mK, mV, cP, cS) (nI m) := by
  have h1 : m < 2 ^ 31 := by omega
  have hv1 : vp_in (nI m) 24 := vp_in_nI hm (by decide)
  simp only [wpX_findFreeNames, forall_eq, nI_clamp h1, hv1, hx, true_and]
  rw [k]
  exact br_f (by decide) (br_f (by decide) (br_f (by decide) (br_t rfl hp)))
theorem xf_two {m o a b : Nat} (hm : m < 24) (ho : o < 5) (k : pK m = nI o) (ha : a < 24) (hb : b < 24) (ea : pP (3 * m) = nI a) (eb : pP (3 * m + 1) = nI b) (hp : pos (pF a ||| pF b)) : wpX_findFreeNames pos (mC, sS, tC, rC, sC, cC, kC, en, pK, pD, pS, pP, pF, stk, tP, tS, tD, rK, rV, mK, mV, cP, cS) (nI m) := by
  have h1 : m < 2 ^ 31 := by omega
  have hv1 : vp_in (nI m) 24 := vp_in_nI hm (by decide)
  simp only [wpX_findFreeNames, forall_eq, nI_clamp h1, hv1, true_and]
  rw [k]
  exact br_t (nI_lt (b := 5) ho (by decide)) (xf_part (i := 0) hm (by omega) ha ea (xf_part (i := 1) hm (by omega) hb eb hp))
theorem xf_choose {m a b c : Nat} (hm : m < 24) (k : pK m = 7) (ha : a < 24) (hb : b < 24) (hc : c < 24) (ea : pP (3 * m) = nI a) (eb : pP (3 * m + 1) = nI b) (ec : pP (3 * m + 2) = nI c) (hp : pos ((pF a ||| pF b) ||| pF c)) : wpX_findFreeNames pos (mC, sS, tC, rC, sC, cC, kC, en, pK, pD, pS, pP, pF, stk, tP, tS, tD, rK, rV, mK, mV, cP, cS) (nI m) := by
  have h1 : m < 2 ^ 31 := by omega
  have hv1 : vp_in (nI m) 24 := vp_in_nI hm (by decide)
  simp only [wpX_findFreeNames, forall_eq, nI_clamp h1, hv1, true_and]
  rw [k]
  exact br_f (by decide) (br_f (by decide) (br_f (by decide) (br_f (by decide) (br_t rfl (xf_part (i := 0) hm (by omega) ha ea (xf_part (i := 1) hm (by omega) hb eb (xf_part (i := 2) hm (by omega) hc ec hp)))))))
theorem xf_bind {m a b : Nat} {x : Int32} (hm : m < 24) (k : pK m = 8) (hx : pD m = x) (ha : a < 24) (hb : b < 24) (ea : pP (3 * m) = nI a) (eb : pP (3 * m + 1) = nI b) (hp : pos (pF a ||| (pF b &&& (((1 : Int32) <<< (x &&& 31)) ^^^ (-1))))) : wpX_findFreeNames pos (mC, sS, tC, rC, sC, cC, kC, en, pK, pD, pS, pP, pF, stk, tP, tS, tD, rK, rV, mK, mV, cP, cS) (nI m) := by
  have h1 : m < 2 ^ 31 := by omega
  have hv1 : vp_in (nI m) 24 := vp_in_nI hm (by decide)
  simp only [wpX_findFreeNames, forall_eq, nI_clamp h1, hv1, hx, true_and]
  rw [k]
  exact br_f (by decide) (br_f (by decide) (br_f (by decide) (br_f (by decide) (br_f (by decide) (br_t rfl (xf_part (i := 0) hm (by omega) ha ea (xf_part (i := 1) hm (by omega) hb eb hp)))))))
theorem xf_function {m a : Nat} {x y : Int32} (hm : m < 24) (k : pK m = 9) (hx : pD m = x) (hy : pS m = y) (ha : a < 24) (ea : pP (3 * m) = nI a) (hp : pos ((pF a &&& (((1 : Int32) <<< (x &&& 31)) ^^^ (-1))) &&& (((1 : Int32) <<< (y &&& 31)) ^^^ (-1)))) : wpX_findFreeNames pos (mC, sS, tC, rC, sC, cC, kC, en, pK, pD, pS, pP, pF, stk, tP, tS, tD, rK, rV, mK, mV, cP, cS) (nI m) := by
  have h1 : m < 2 ^ 31 := by omega
  have hv1 : vp_in (nI m) 24 := vp_in_nI hm (by decide)
  simp only [wpX_findFreeNames, forall_eq, nI_clamp h1, hv1, hx, hy, true_and]
  rw [k]
  exact br_f (by decide) (br_f (by decide) (br_f (by decide) (br_f (by decide) (br_f (by decide) (br_f (by decide) (br_t rfl (xf_part (i := 0) hm (by omega) ha ea hp)))))))
theorem xx_make {m b cnt : Nat} {k dt sf F : Int32} (hm : m < 24) (hc : cnt ≤ 3) (hb : b + cnt ≤ 6) (hb6 : b < 6)
    (hF : ∀ P : Int32 → Prop, P F → wpX_findFreeNames P (nI m, nI (b + cnt), tC, rC, sC, cC, kC, en, upd pK m k, upd pD m dt, upd pS m sf, cc_cp pP stk (3 * m) b cnt, pF, stk, tP, tS, tD, rK, rV, mK, mV, cP, cS) (nI m))
    (hp : posr (nI (b + 1)) (nI (m + 1), nI (b + 1), tC, rC, sC, cC, kC, en, upd pK m k, upd pD m dt, upd pS m sf, cc_cp pP stk (3 * m) b cnt, upd pF m F, upd stk b (nI m), tP, tS, tD, rK, rV, mK, mV, cP, cS)) :
    wpX_makeProgram posr (nI m, nI (b + cnt), tC, rC, sC, cC, kC, en, pK, pD, pS, pP, pF, stk, tP, tS, tD, rK, rV, mK, mV, cP, cS) k dt sf (nI cnt) := by
  have h1 : m < 2 ^ 31 := by omega
  have h2 : b < 2 ^ 31 := by omega
  have hv1 : vp_in (nI m) 24 := vp_in_nI hm (by decide)
  have hv2 : vp_in (nI b) 6 := vp_in_nI hb6 (by decide)
  have e1 : upd pF (nI m).toNatClampNeg F = upd pF m F := by rw [nI_clamp h1]
  have e2 : upd stk (nI b).toNatClampNeg (nI m) = upd stk b (nI m) := by rw [nI_clamp h2]
  have key : ∀ j i : Nat, i + j = cnt → wX_makeProgram_42 posr (nI cnt) (nI m) (nI b) (nI m) (nI (b + cnt)) tC rC sC cC kC en (j + 1) (nI i) (upd pK m k) (upd pD m dt) (upd pS m sf) (cc_cp pP stk (3 * m) b i) pF stk tP tS tD rK rV mK mV cP cS := by
    intro j
    induction j with
    | zero =>
      intro i hi
      obtain rfl : i = cnt := by omega
      exact br_t (nI_le (Nat.le_refl _) (by omega)) (hF _ ⟨hv1, nm_r e1 (nm_r (nI_1 m) ⟨hv2, nm_r e2 (nm_r (nI_1 b) hp)⟩)⟩)
    | succ j ih =>
      intro i hi
      have h3 : 3 * m + i < 2 ^ 31 := by omega
      have h4 : b + i < 2 ^ 31 := by omega
      have e3 : upd (cc_cp pP stk (3 * m) b i) (nI m * 3 + nI i).toNatClampNeg (stk (nI b + nI i).toNatClampNeg) = cc_cp pP stk (3 * m) b (i + 1) := by
        rw [cc_x3, nI_add, nI_clamp h3, nI_clamp h4]; rfl
      have hv3 : vp_in (nI b + nI i) 6 := by rw [nI_add]; exact vp_in_nI (by omega) (by decide)
      have hv4 : vp_in (nI m * 3 + nI i) 72 := by rw [cc_x3]; exact vp_in_nI (by omega) (by decide)
      exact br_f (nI_ge (by omega) (by omega)) ⟨hv3, hv4, nm_r e3 (nm_r (nI_1 i) (ih (i + 1) (by omega)))⟩
  simp only [wpX_makeProgram, forall_eq, nI_clamp h1, cc_sub, hv1, true_and]
  exact ⟨cnt + 1, key cnt 0 (by omega)⟩
theorem xx_combine_full {m : Nat} {k dt sf n : Int32} (hm : m = 24) (hp : posr (-2) (nI m, sS, tC, rC, sC, cC, kC, en, pK, pD, pS, pP, pF, stk, tP, tS, tD, rK, rV, mK, mV, cP, cS)) : wpX_combine posr (nI m, sS, tC, rC, sC, cC, kC, en, pK, pD, pS, pP, pF, stk, tP, tS, tD, rK, rV, mK, mV, cP, cS) k dt sf n := by
  unfold wpX_combine
  dsimp only
  exact br_f (by rw [hm]; decide) hp
theorem xx_combine_few {m d cnt : Nat} {k dt sf : Int32} (hm : m < 24) (hd : d < cnt) (hc : cnt ≤ 3) (hp : posr (-3) (nI m, nI d, tC, rC, sC, cC, kC, en, pK, pD, pS, pP, pF, stk, tP, tS, tD, rK, rV, mK, mV, cP, cS)) : wpX_combine posr (nI m, nI d, tC, rC, sC, cC, kC, en, pK, pD, pS, pP, pF, stk, tP, tS, tD, rK, rV, mK, mV, cP, cS) k dt sf (nI cnt) := by
  unfold wpX_combine
  dsimp only
  exact br_t (nI_lt (b := 24) hm (by decide)) (br_f (nI_ge hd (by omega)) hp)
theorem xx_combine_ok {m b cnt : Nat} {k dt sf F : Int32} (hm : m < 24) (hc : cnt ≤ 3) (hb : b + cnt ≤ 6) (hb6 : b < 6)
    (hF : ∀ P : Int32 → Prop, P F → wpX_findFreeNames P (nI m, nI (b + cnt), tC, rC, sC, cC, kC, en, upd pK m k, upd pD m dt, upd pS m sf, cc_cp pP stk (3 * m) b cnt, pF, stk, tP, tS, tD, rK, rV, mK, mV, cP, cS) (nI m))
    (hp : posr (nI (b + 1)) (nI (m + 1), nI (b + 1), tC, rC, sC, cC, kC, en, upd pK m k, upd pD m dt, upd pS m sf, cc_cp pP stk (3 * m) b cnt, upd pF m F, upd stk b (nI m), tP, tS, tD, rK, rV, mK, mV, cP, cS)) :
    wpX_combine posr (nI m, nI (b + cnt), tC, rC, sC, cC, kC, en, pK, pD, pS, pP, pF, stk, tP, tS, tD, rK, rV, mK, mV, cP, cS) k dt sf (nI cnt) := by
  unfold wpX_combine
  dsimp only
  exact br_t (nI_lt (b := 24) hm (by decide)) (br_t (nI_le (by omega) (by omega)) (xx_make hm hc hb hb6 hF hp))
theorem xx_isName0 {x : Int32} (h : x < 0 ∨ nI 4 ≤ x) (hp : pos 0) : wpX_isName pos x := by
  exact br_c (fun _ => hp) (fun z => br_t (h.resolve_left z) hp)
theorem xx_isName1 {w : Nat} (h : w < 4) (hp : pos 1) : wpX_isName pos (nI w) := by
  exact br_f (nI_pos (by omega)) (br_f (nI_ge (b := 4) h (by decide)) hp)
end
section
variable {ym yd li yc wt he yl ye : Int32} {yk pP yn pF stk me mt cl wa va ic : Nat → Int32} {post : SY → Prop} {posr : Int32 → SY → Prop} {pos : Int32 → Prop}
theorem yy_note {m b cnt : Nat} {k nt F : Int32} (hm : m < 24) (hc : cnt ≤ 3) (hb : b + cnt ≤ 6) (hb6 : b < 6)
    (hp : posr (nI (b + 1)) (nI (m + 1), nI (b + 1), li, yc, wt, he, yl, ye, upd yk m k, cc_cp pP stk (3 * m) b cnt, upd yn m nt, upd pF m F, upd stk b (nI m), me, mt, cl, wa, va, ic)) :
    wpY_note posr (nI m, nI (b + cnt), li, yc, wt, he, yl, ye, yk, pP, yn, pF, stk, me, mt, cl, wa, va, ic) k (nI cnt) nt F := by
  have h1 : m < 2 ^ 31 := by omega
  have h2 : b < 2 ^ 31 := by omega
  have hv1 : vp_in (nI m) 24 := vp_in_nI hm (by decide)
  have hv2 : vp_in (nI b) 6 := vp_in_nI hb6 (by decide)
  have e1 : upd yk (nI m).toNatClampNeg k = upd yk m k := by rw [nI_clamp h1]
  have e2 : upd yn (nI m).toNatClampNeg nt = upd yn m nt := by rw [nI_clamp h1]
  have e3 : upd pF (nI m).toNatClampNeg F = upd pF m F := by rw [nI_clamp h1]
  have e4 : upd stk (nI b).toNatClampNeg (nI m) = upd stk b (nI m) := by rw [nI_clamp h2]
  have key : ∀ j i : Nat, i + j = cnt → wY_note_13 posr k (nI cnt) nt F (nI m) (nI b) li yc wt he yl ye (j + 1) (nI i) yk (cc_cp pP stk (3 * m) b i) yn pF stk me mt cl wa va ic := by
    intro j
    induction j with
    | zero =>
      intro i hi
      obtain rfl : i = cnt := by omega
      exact br_t (nI_le (Nat.le_refl _) (by omega)) ⟨hv1, nm_r e1 ⟨hv1, nm_r e2 ⟨hv1, nm_r e3 ⟨hv2, nm_r e4 (nm_r (nI_1 m) (nm_r (nI_1 b) hp))⟩⟩⟩⟩
    | succ j ih =>
      intro i hi
      have h3 : 3 * m + i < 2 ^ 31 := by omega
      have h4 : b + i < 2 ^ 31 := by omega
      have e5 : upd (cc_cp pP stk (3 * m) b i) (3 * nI m + nI i).toNatClampNeg (stk (nI b + nI i).toNatClampNeg) = cc_cp pP stk (3 * m) b (i + 1) := by
        rw [cc_y3, nI_add, nI_clamp h3, nI_clamp h4]; rfl
      have hv3 : vp_in (nI b + nI i) 6 := by rw [nI_add]; exact vp_in_nI (by omega) (by decide)
      have hv4 : vp_in (3 * nI m + nI i) 72 := by rw [cc_y3]; exact vp_in_nI (by omega) (by decide)
      exact br_f (nI_ge (by omega) (by omega)) ⟨hv3, hv4, nm_r e5 (nm_r (nI_1 i) (ih (i + 1) (by omega)))⟩
  simp only [wpY_note, forall_eq, cc_sub]
  exact ⟨cnt + 1, key cnt 0 (by omega)⟩
theorem yy_freeAt {d i : Nat} (hd : d ≤ 6) (hi3 : i < 3) (hS : ∀ j, j < d → ∃ q, q < 24 ∧ stk j = nI q) (hp : pos (cc_fa pF stk d i)) : wpY_freeAt pos (ym, nI d, li, yc, wt, he, yl, ye, yk, pP, yn, pF, stk, me, mt, cl, wa, va, ic) (nI i) := by
  unfold wpY_freeAt
  dsimp only
  unfold cc_fa at hp
  by_cases hi : i < d
  · obtain ⟨q, hq, e⟩ := hS (d - 1 - i) (by omega)
    have e0 : nI d - 1 - nI i = nI (d - 1 - i) := by
      rw [show nI d - 1 = nI (d - 1) from pk_sub (a := d) (b := 1) (by omega), pk_sub (by omega)]
    rw [if_pos hi, e, nI_clamp (by omega)] at hp
    rw [e0, nI_clamp (by omega), e, nI_clamp (by omega)]
    exact br_f (nI_ge hi (by omega)) ⟨vp_in_nI (by omega) (by decide), vp_in_nI hq (by decide), hp⟩
  · rw [if_neg hi] at hp
    exact br_t (nI_le (by omega) (by omega)) hp
theorem yy_leaf_full {m d : Nat} {k nt F : Int32} (h : m = 24 ∨ d = 6) (hp : posr (-2) (nI m, nI d, li, yc, wt, he, yl, ye, yk, pP, yn, pF, stk, me, mt, cl, wa, va, ic)) : wpY_leaf posr (nI m, nI d, li, yc, wt, he, yl, ye, yk, pP, yn, pF, stk, me, mt, cl, wa, va, ic) k nt F := by
  unfold wpY_leaf
  dsimp only
  rcases h with h | h
  · exact br_t (by rw [h]; decide) hp
  · exact br_c (fun _ => hp) (fun _ => br_t (by rw [h]; decide) hp)
theorem yy_leaf_ok {m d : Nat} {k nt F : Int32} (hm : m < 24) (hd : d < 6)
    (hp : posr (nI (d + 1)) (nI (m + 1), nI (d + 1), li, yc, wt, he, yl, ye, upd yk m k, pP, upd yn m nt, upd pF m F, upd stk d (nI m), me, mt, cl, wa, va, ic)) : wpY_leaf posr (nI m, nI d, li, yc, wt, he, yl, ye, yk, pP, yn, pF, stk, me, mt, cl, wa, va, ic) k nt F := by
  unfold wpY_leaf
  dsimp only
  exact br_f (fun z => absurd ((nI_eq (b := 24) (by omega) (by omega)).mp z) (by omega)) (br_f (fun z => absurd ((nI_eq (b := 6) (by omega) (by omega)).mp z) (by omega)) (yy_note (cnt := 0) (b := d) hm (by omega) (by omega) hd hp))
theorem yy_make_full {m : Nat} {k n nt F : Int32} (h : m = 24) (hp : posr (-2) (nI m, yd, li, yc, wt, he, yl, ye, yk, pP, yn, pF, stk, me, mt, cl, wa, va, ic)) : wpY_make posr (nI m, yd, li, yc, wt, he, yl, ye, yk, pP, yn, pF, stk, me, mt, cl, wa, va, ic) k n nt F := by
  unfold wpY_make
  dsimp only
  exact br_t (by rw [h]; decide) hp
theorem yy_make_few {m d cnt : Nat} {k nt F : Int32} (hm : m < 24) (hd : d < cnt) (hc : cnt ≤ 3) (hp : posr (-3) (nI m, nI d, li, yc, wt, he, yl, ye, yk, pP, yn, pF, stk, me, mt, cl, wa, va, ic)) : wpY_make posr (nI m, nI d, li, yc, wt, he, yl, ye, yk, pP, yn, pF, stk, me, mt, cl, wa, va, ic) k (nI cnt) nt F := by
  unfold wpY_make
  dsimp only
  exact br_f (fun z => absurd ((nI_eq (b := 24) (by omega) (by omega)).mp z) (by omega)) (br_f (nI_ge hd (by omega)) hp)
theorem yy_make_ok {m b cnt : Nat} {k nt F : Int32} (hm : m < 24) (hc : cnt ≤ 3) (hb : b + cnt ≤ 6) (hb6 : b < 6)
    (hp : posr (nI (b + 1)) (nI (m + 1), nI (b + 1), li, yc, wt, he, yl, ye, upd yk m k, cc_cp pP stk (3 * m) b cnt, upd yn m nt, upd pF m F, upd stk b (nI m), me, mt, cl, wa, va, ic)) :
    wpY_make posr (nI m, nI (b + cnt), li, yc, wt, he, yl, ye, yk, pP, yn, pF, stk, me, mt, cl, wa, va, ic) k (nI cnt) nt F := by
  unfold wpY_make
  dsimp only
  exact br_f (fun z => absurd ((nI_eq (b := 24) (by omega) (by omega)).mp z) (by omega)) (br_t (nI_le (by omega) (by omega)) (yy_note hm hc hb hb6 hp))
theorem yy_isName0 {x : Int32} (h : x < 0 ∨ nI 4 ≤ x) (hp : pos 0) : wpY_isName pos (ym, yd, li, yc, wt, he, yl, ye, yk, pP, yn, pF, stk, me, mt, cl, wa, va, ic) x := by
  unfold wpY_isName
  dsimp only
  exact br_c (fun _ => hp) (fun z => br_t (cc_ge x (n := 3) (by decide) (h.resolve_left z)) hp)
theorem yy_isName1 {w : Nat} (h : w < 4) (hp : pos 1) : wpY_isName pos (ym, yd, li, yc, wt, he, yl, ye, yk, pP, yn, pF, stk, me, mt, cl, wa, va, ic) (nI w) := by
  unfold wpY_isName
  dsimp only
  exact br_f (nI_pos (by omega)) (br_f (nI_nlt (a := 3) (by omega) (by decide)) hp)
end
