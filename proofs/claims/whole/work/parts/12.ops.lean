/-! the making calls, case by case -/
section
variable {m d : Nat} {tC rC sC cC kC en : Int32} {pK pD pS pP pF stk tP tS tD rK rV mK mV cP cS : Nat → Int32} {posr : Int32 → SX → Prop}
theorem xo_number_bad {x : Int32} (h : x < -9 ∨ ¬ x ≤ 9) (hp : posr (-1) (nI m, nI d, tC, rC, sC, cC, kC, en, pK, pD, pS, pP, pF, stk, tP, tS, tD, rK, rV, mK, mV, cP, cS)) : wpX_number posr (nI m, nI d, tC, rC, sC, cC, kC, en, pK, pD, pS, pP, pF, stk, tP, tS, tD, rK, rV, mK, mV, cP, cS) x := by
  unfold wpX_number
  dsimp only
  exact br_c (fun _ => hp) (fun z => br_f (h.resolve_left z) hp)
theorem xo_number_full {x : Int32} (h1 : ¬ x < -9) (h2 : x ≤ 9) (h : m = 24 ∨ d = 6) (hp : posr (-2) (nI m, nI d, tC, rC, sC, cC, kC, en, pK, pD, pS, pP, pF, stk, tP, tS, tD, rK, rV, mK, mV, cP, cS)) : wpX_number posr (nI m, nI d, tC, rC, sC, cC, kC, en, pK, pD, pS, pP, pF, stk, tP, tS, tD, rK, rV, mK, mV, cP, cS) x := by
  unfold wpX_number
  dsimp only
  refine br_f h1 (br_t h2 ?_)
  rcases h with h | h
  · exact br_t (by rw [h]; decide) hp
  · exact br_c (fun _ => hp) (fun _ => br_f (by rw [h]; decide) hp)
theorem xo_number_ok {x : Int32} (h1 : ¬ x < -9) (h2 : x ≤ 9) (hm : m < 24) (hd : d < 6)
    (hp : posr (nI (d + 1)) (nI (m + 1), nI (d + 1), tC, rC, sC, cC, kC, en, upd pK m 5, upd pD m x, upd pS m 0, pP, upd pF m 0, upd stk d (nI m), tP, tS, tD, rK, rV, mK, mV, cP, cS)) : wpX_number posr (nI m, nI d, tC, rC, sC, cC, kC, en, pK, pD, pS, pP, pF, stk, tP, tS, tD, rK, rV, mK, mV, cP, cS) x := by
  unfold wpX_number
  dsimp only
  exact br_f h1 (br_t h2 (br_f (nI_ge (b := 24) hm (by decide)) (br_t (nI_lt (b := 6) hd (by decide)) (xx_make (cnt := 0) (b := d) hm (by omega) (by omega) hd (fun P hP => xf_number hm pk_us hP) hp))))
theorem xo_name_bad {x : Int32} (h : x < 0 ∨ nI 4 ≤ x) (hp : posr (-1) (nI m, nI d, tC, rC, sC, cC, kC, en, pK, pD, pS, pP, pF, stk, tP, tS, tD, rK, rV, mK, mV, cP, cS)) : wpX_name posr (nI m, nI d, tC, rC, sC, cC, kC, en, pK, pD, pS, pP, pF, stk, tP, tS, tD, rK, rV, mK, mV, cP, cS) x := by
  unfold wpX_name
  dsimp only
  exact xx_isName0 h (br_t rfl hp)
theorem xo_name_full {w : Nat} (hw : w < 4) (h : m = 24 ∨ d = 6) (hp : posr (-2) (nI m, nI d, tC, rC, sC, cC, kC, en, pK, pD, pS, pP, pF, stk, tP, tS, tD, rK, rV, mK, mV, cP, cS)) : wpX_name posr (nI m, nI d, tC, rC, sC, cC, kC, en, pK, pD, pS, pP, pF, stk, tP, tS, tD, rK, rV, mK, mV, cP, cS) (nI w) := by
  unfold wpX_name
  dsimp only
  refine xx_isName1 hw (br_f (by decide) ?_)
  rcases h with h | h
  · exact br_t (by rw [h]; decide) hp
  · exact br_c (fun _ => hp) (fun _ => br_f (by rw [h]; decide) hp)
theorem xo_name_ok {w : Nat} (hw : w < 4) (hm : m < 24) (hd : d < 6)
    (hp : posr (nI (d + 1)) (nI (m + 1), nI (d + 1), tC, rC, sC, cC, kC, en, upd pK m 6, upd pD m (nI w), upd pS m 0, pP, upd pF m ((1 : Int32) <<< (nI w &&& 31)), upd stk d (nI m), tP, tS, tD, rK, rV, mK, mV, cP, cS)) : wpX_name posr (nI m, nI d, tC, rC, sC, cC, kC, en, pK, pD, pS, pP, pF, stk, tP, tS, tD, rK, rV, mK, mV, cP, cS) (nI w) := by
  unfold wpX_name
  dsimp only
  exact xx_isName1 hw (br_f (by decide) (br_f (nI_ge (b := 24) hm (by decide)) (br_t (nI_lt (b := 6) hd (by decide)) (xx_make (cnt := 0) (b := d) hm (by omega) (by omega) hd (fun P hP => xf_name hm pk_us pk_us hP) hp))))
theorem xo_two_bad {x : Int32} (h : x < 0 ∨ ¬ x ≤ 4) (hp : posr (-1) (nI m, nI d, tC, rC, sC, cC, kC, en, pK, pD, pS, pP, pF, stk, tP, tS, tD, rK, rV, mK, mV, cP, cS)) : wpX_two posr (nI m, nI d, tC, rC, sC, cC, kC, en, pK, pD, pS, pP, pF, stk, tP, tS, tD, rK, rV, mK, mV, cP, cS) x := by
  unfold wpX_two
  dsimp only
  exact br_c (fun _ => hp) (fun z => br_f (h.resolve_left z) hp)
theorem xo_two_full {o : Nat} (ho : o < 5) (h : m = 24) (hp : posr (-2) (nI m, nI d, tC, rC, sC, cC, kC, en, pK, pD, pS, pP, pF, stk, tP, tS, tD, rK, rV, mK, mV, cP, cS)) : wpX_two posr (nI m, nI d, tC, rC, sC, cC, kC, en, pK, pD, pS, pP, pF, stk, tP, tS, tD, rK, rV, mK, mV, cP, cS) (nI o) := by
  unfold wpX_two
  dsimp only
  exact br_f (nI_pos (by omega)) (br_t (nI_le (b := 4) (by omega) (by decide)) (xx_combine_full h hp))
theorem xo_two_few {o : Nat} (ho : o < 5) (hm : m < 24) (h : d < 2) (hp : posr (-3) (nI m, nI d, tC, rC, sC, cC, kC, en, pK, pD, pS, pP, pF, stk, tP, tS, tD, rK, rV, mK, mV, cP, cS)) : wpX_two posr (nI m, nI d, tC, rC, sC, cC, kC, en, pK, pD, pS, pP, pF, stk, tP, tS, tD, rK, rV, mK, mV, cP, cS) (nI o) := by
  unfold wpX_two
  dsimp only
  exact br_f (nI_pos (by omega)) (br_t (nI_le (b := 4) (by omega) (by decide)) (xx_combine_few (cnt := 2) hm h (by omega) hp))
theorem xo_choose_full  (h : m = 24) (hp : posr (-2) (nI m, nI d, tC, rC, sC, cC, kC, en, pK, pD, pS, pP, pF, stk, tP, tS, tD, rK, rV, mK, mV, cP, cS)) : wpX_choose posr (nI m, nI d, tC, rC, sC, cC, kC, en, pK, pD, pS, pP, pF, stk, tP, tS, tD, rK, rV, mK, mV, cP, cS)  := by
  unfold wpX_choose
  dsimp only
  exact xx_combine_full h hp
theorem xo_choose_few  (hm : m < 24) (h : d < 3) (hp : posr (-3) (nI m, nI d, tC, rC, sC, cC, kC, en, pK, pD, pS, pP, pF, stk, tP, tS, tD, rK, rV, mK, mV, cP, cS)) : wpX_choose posr (nI m, nI d, tC, rC, sC, cC, kC, en, pK, pD, pS, pP, pF, stk, tP, tS, tD, rK, rV, mK, mV, cP, cS)  := by
  unfold wpX_choose
  dsimp only
  exact xx_combine_few (cnt := 3) hm h (by omega) hp
theorem xo_bind_full {w : Nat} (hw : w < 4) (h : m = 24) (hp : posr (-2) (nI m, nI d, tC, rC, sC, cC, kC, en, pK, pD, pS, pP, pF, stk, tP, tS, tD, rK, rV, mK, mV, cP, cS)) : wpX_bind posr (nI m, nI d, tC, rC, sC, cC, kC, en, pK, pD, pS, pP, pF, stk, tP, tS, tD, rK, rV, mK, mV, cP, cS) (nI w) := by
  unfold wpX_bind
  dsimp only
  exact xx_isName1 hw (br_f (by decide) (xx_combine_full h hp))
theorem xo_bind_few {w : Nat} (hw : w < 4) (hm : m < 24) (h : d < 2) (hp : posr (-3) (nI m, nI d, tC, rC, sC, cC, kC, en, pK, pD, pS, pP, pF, stk, tP, tS, tD, rK, rV, mK, mV, cP, cS)) : wpX_bind posr (nI m, nI d, tC, rC, sC, cC, kC, en, pK, pD, pS, pP, pF, stk, tP, tS, tD, rK, rV, mK, mV, cP, cS) (nI w) := by
  unfold wpX_bind
  dsimp only
  exact xx_isName1 hw (br_f (by decide) (xx_combine_few (cnt := 2) hm h (by omega) hp))
theorem xo_function_full {f w : Nat} (hf : f < 4) (hw : w < 4) (h : m = 24) (hp : posr (-2) (nI m, nI d, tC, rC, sC, cC, kC, en, pK, pD, pS, pP, pF, stk, tP, tS, tD, rK, rV, mK, mV, cP, cS)) : wpX_function posr (nI m, nI d, tC, rC, sC, cC, kC, en, pK, pD, pS, pP, pF, stk, tP, tS, tD, rK, rV, mK, mV, cP, cS) (nI f) (nI w) := by
  unfold wpX_function
  dsimp only
  exact xx_isName1 hf (br_f (by decide) (xx_isName1 hw (br_f (by decide) (xx_combine_full h hp))))
theorem xo_function_few {f w : Nat} (hf : f < 4) (hw : w < 4) (hm : m < 24) (h : d < 1) (hp : posr (-3) (nI m, nI d, tC, rC, sC, cC, kC, en, pK, pD, pS, pP, pF, stk, tP, tS, tD, rK, rV, mK, mV, cP, cS)) : wpX_function posr (nI m, nI d, tC, rC, sC, cC, kC, en, pK, pD, pS, pP, pF, stk, tP, tS, tD, rK, rV, mK, mV, cP, cS) (nI f) (nI w) := by
  unfold wpX_function
  dsimp only
  exact xx_isName1 hf (br_f (by decide) (xx_isName1 hw (br_f (by decide) (xx_combine_few (cnt := 1) hm h (by omega) hp))))
theorem xo_two_ok {o : Nat} (ho : o < 5) {g a b : Nat} (hm : m < 24) (hg : g + 2 ≤ 6) (ha : a < 24) (hb : b < 24) (ea : stk g = nI a) (eb : stk (g + 1) = nI b)
    (hp : posr (nI (g + 1)) (nI (m + 1), nI (g + 1), tC, rC, sC, cC, kC, en, upd pK m (nI o), upd pD m 0, upd pS m 0, cc_cp pP stk (3 * m) g 2, upd pF m (pF a ||| pF b), upd stk g (nI m), tP, tS, tD, rK, rV, mK, mV, cP, cS)) : wpX_two posr (nI m, nI (g + 2), tC, rC, sC, cC, kC, en, pK, pD, pS, pP, pF, stk, tP, tS, tD, rK, rV, mK, mV, cP, cS) (nI o) := by
  unfold wpX_two
  dsimp only
  exact br_f (nI_pos (by omega)) (br_t (nI_le (b := 4) (by omega) (by decide)) (xx_combine_ok (cnt := 2) hm (by omega) hg (by omega) (fun P hP => xf_two hm ho pk_us ha hb ((cc_cp_at 2 0 (by omega)).trans ea) ((cc_cp_at 2 1 (by omega)).trans eb) hP) hp))
theorem xo_choose_ok  {g a b c : Nat} (hm : m < 24) (hg : g + 3 ≤ 6) (ha : a < 24) (hb : b < 24) (hc : c < 24) (ea : stk g = nI a) (eb : stk (g + 1) = nI b) (ec : stk (g + 2) = nI c)
    (hp : posr (nI (g + 1)) (nI (m + 1), nI (g + 1), tC, rC, sC, cC, kC, en, upd pK m 7, upd pD m 0, upd pS m 0, cc_cp pP stk (3 * m) g 3, upd pF m ((pF a ||| pF b) ||| pF c), upd stk g (nI m), tP, tS, tD, rK, rV, mK, mV, cP, cS)) : wpX_choose posr (nI m, nI (g + 3), tC, rC, sC, cC, kC, en, pK, pD, pS, pP, pF, stk, tP, tS, tD, rK, rV, mK, mV, cP, cS)  := by
  unfold wpX_choose
  dsimp only
  exact xx_combine_ok (cnt := 3) hm (by omega) hg (by omega) (fun P hP => xf_choose hm pk_us ha hb hc ((cc_cp_at 3 0 (by omega)).trans ea) ((cc_cp_at 3 1 (by omega)).trans eb) ((cc_cp_at 3 2 (by omega)).trans ec) hP) hp
theorem xo_bind_ok {w : Nat} (hw : w < 4) {g a b : Nat} (hm : m < 24) (hg : g + 2 ≤ 6) (ha : a < 24) (hb : b < 24) (ea : stk g = nI a) (eb : stk (g + 1) = nI b)
    (hp : posr (nI (g + 1)) (nI (m + 1), nI (g + 1), tC, rC, sC, cC, kC, en, upd pK m 8, upd pD m (nI w), upd pS m 0, cc_cp pP stk (3 * m) g 2, upd pF m (pF a ||| (pF b &&& (((1 : Int32) <<< (nI w &&& 31)) ^^^ (-1)))), upd stk g (nI m), tP, tS, tD, rK, rV, mK, mV, cP, cS)) : wpX_bind posr (nI m, nI (g + 2), tC, rC, sC, cC, kC, en, pK, pD, pS, pP, pF, stk, tP, tS, tD, rK, rV, mK, mV, cP, cS) (nI w) := by
  unfold wpX_bind
  dsimp only
  exact xx_isName1 hw (br_f (by decide) (xx_combine_ok (cnt := 2) hm (by omega) hg (by omega) (fun P hP => xf_bind hm pk_us pk_us ha hb ((cc_cp_at 2 0 (by omega)).trans ea) ((cc_cp_at 2 1 (by omega)).trans eb) hP) hp))
theorem xo_function_ok {f w : Nat} (hf : f < 4) (hw : w < 4) {g a : Nat} (hm : m < 24) (hg : g + 1 ≤ 6) (ha : a < 24) (ea : stk g = nI a)
    (hp : posr (nI (g + 1)) (nI (m + 1), nI (g + 1), tC, rC, sC, cC, kC, en, upd pK m 9, upd pD m (nI w), upd pS m (nI f), cc_cp pP stk (3 * m) g 1, upd pF m ((pF a &&& (((1 : Int32) <<< (nI w &&& 31)) ^^^ (-1))) &&& (((1 : Int32) <<< (nI f &&& 31)) ^^^ (-1))), upd stk g (nI m), tP, tS, tD, rK, rV, mK, mV, cP, cS)) : wpX_function posr (nI m, nI (g + 1), tC, rC, sC, cC, kC, en, pK, pD, pS, pP, pF, stk, tP, tS, tD, rK, rV, mK, mV, cP, cS) (nI f) (nI w) := by
  unfold wpX_function
  dsimp only
  exact xx_isName1 hf (br_f (by decide) (xx_isName1 hw (br_f (by decide) (xx_combine_ok (cnt := 1) hm (by omega) hg (by omega) (fun P hP => xf_function hm pk_us pk_us pk_us ha ((cc_cp_at 1 0 (by omega)).trans ea) hP) hp))))
theorem xo_bind_bad {x : Int32} (h : x < 0 ∨ nI 4 ≤ x) (hp : posr (-1) (nI m, nI d, tC, rC, sC, cC, kC, en, pK, pD, pS, pP, pF, stk, tP, tS, tD, rK, rV, mK, mV, cP, cS)) : wpX_bind posr (nI m, nI d, tC, rC, sC, cC, kC, en, pK, pD, pS, pP, pF, stk, tP, tS, tD, rK, rV, mK, mV, cP, cS) x := by
  unfold wpX_bind
  dsimp only
  exact xx_isName0 h (br_t rfl hp)
theorem xo_function_bad {x y : Int32} (h : x < 0 ∨ nI 4 ≤ x) (hp : posr (-1) (nI m, nI d, tC, rC, sC, cC, kC, en, pK, pD, pS, pP, pF, stk, tP, tS, tD, rK, rV, mK, mV, cP, cS)) : wpX_function posr (nI m, nI d, tC, rC, sC, cC, kC, en, pK, pD, pS, pP, pF, stk, tP, tS, tD, rK, rV, mK, mV, cP, cS) x y := by
  unfold wpX_function
  dsimp only
  exact xx_isName0 h (br_t rfl hp)
theorem xo_function_bad2 {f : Nat} {y : Int32} (hf : f < 4) (h : y < 0 ∨ nI 4 ≤ y) (hp : posr (-1) (nI m, nI d, tC, rC, sC, cC, kC, en, pK, pD, pS, pP, pF, stk, tP, tS, tD, rK, rV, mK, mV, cP, cS)) : wpX_function posr (nI m, nI d, tC, rC, sC, cC, kC, en, pK, pD, pS, pP, pF, stk, tP, tS, tD, rK, rV, mK, mV, cP, cS) (nI f) y := by
  unfold wpX_function
  dsimp only
  exact xx_isName1 hf (br_f (by decide) (xx_isName0 h (br_t rfl hp)))
end
section
variable {m d : Nat} {li yc wt he yl ye : Int32} {yk pP yn pF stk me mt cl wa va ic : Nat → Int32} {posr : Int32 → SY → Prop}
theorem yo_number_bad {x : Int32} (h : x < -9 ∨ ¬ x ≤ 9) (hp : posr (-1) (nI m, nI d, li, yc, wt, he, yl, ye, yk, pP, yn, pF, stk, me, mt, cl, wa, va, ic)) : wpY_number posr (nI m, nI d, li, yc, wt, he, yl, ye, yk, pP, yn, pF, stk, me, mt, cl, wa, va, ic) x := by
  unfold wpY_number
  dsimp only
  exact br_c (fun _ => hp) (fun z => br_f (h.resolve_left z) hp)
theorem yo_number_full {x : Int32} (h1 : ¬ x < -9) (h2 : x ≤ 9) (h : m = 24 ∨ d = 6) (hp : posr (-2) (nI m, nI d, li, yc, wt, he, yl, ye, yk, pP, yn, pF, stk, me, mt, cl, wa, va, ic)) : wpY_number posr (nI m, nI d, li, yc, wt, he, yl, ye, yk, pP, yn, pF, stk, me, mt, cl, wa, va, ic) x := by
  unfold wpY_number
  dsimp only
  exact br_f h1 (br_t h2 (yy_leaf_full h hp))
theorem yo_number_ok {x : Int32} (h1 : ¬ x < -9) (h2 : x ≤ 9) (hm : m < 24) (hd : d < 6)
    (hp : posr (nI (d + 1)) (nI (m + 1), nI (d + 1), li, yc, wt, he, yl, ye, upd yk m 8, pP, upd yn m x, upd pF m 0, upd stk d (nI m), me, mt, cl, wa, va, ic)) : wpY_number posr (nI m, nI d, li, yc, wt, he, yl, ye, yk, pP, yn, pF, stk, me, mt, cl, wa, va, ic) x := by
  unfold wpY_number
  dsimp only
  exact br_f h1 (br_t h2 (yy_leaf_ok hm hd hp))
theorem yo_name_bad {x : Int32} (h : x < 0 ∨ nI 4 ≤ x) (hp : posr (-1) (nI m, nI d, li, yc, wt, he, yl, ye, yk, pP, yn, pF, stk, me, mt, cl, wa, va, ic)) : wpY_name posr (nI m, nI d, li, yc, wt, he, yl, ye, yk, pP, yn, pF, stk, me, mt, cl, wa, va, ic) x := by
  unfold wpY_name
  dsimp only
  exact yy_isName0 h (br_t rfl hp)
theorem yo_name_full {w : Nat} (hw : w < 4) (h : m = 24 ∨ d = 6) (hp : posr (-2) (nI m, nI d, li, yc, wt, he, yl, ye, yk, pP, yn, pF, stk, me, mt, cl, wa, va, ic)) : wpY_name posr (nI m, nI d, li, yc, wt, he, yl, ye, yk, pP, yn, pF, stk, me, mt, cl, wa, va, ic) (nI w) := by
  unfold wpY_name
  dsimp only
  exact yy_isName1 hw (br_f (by decide) (yy_leaf_full h hp))
theorem yo_name_ok {w : Nat} (hw : w < 4) (hm : m < 24) (hd : d < 6)
    (hp : posr (nI (d + 1)) (nI (m + 1), nI (d + 1), li, yc, wt, he, yl, ye, upd yk m 9, pP, upd yn m (nI w), upd pF m ((1 : Int32) <<< (nI w &&& 31)), upd stk d (nI m), me, mt, cl, wa, va, ic)) : wpY_name posr (nI m, nI d, li, yc, wt, he, yl, ye, yk, pP, yn, pF, stk, me, mt, cl, wa, va, ic) (nI w) := by
  unfold wpY_name
  dsimp only
  exact yy_isName1 hw (br_f (by decide) (yy_leaf_ok hm hd hp))
theorem yo_two_bad {x : Int32} (hd : d ≤ 6) (hS : ∀ j, j < d → ∃ q, q < 24 ∧ stk j = nI q) (h : x < 0 ∨ ¬ x ≤ 4) (hp : posr (-1) (nI m, nI d, li, yc, wt, he, yl, ye, yk, pP, yn, pF, stk, me, mt, cl, wa, va, ic)) : wpY_two posr (nI m, nI d, li, yc, wt, he, yl, ye, yk, pP, yn, pF, stk, me, mt, cl, wa, va, ic) x := by
  unfold wpY_two
  dsimp only
  exact yy_freeAt (i := 0) hd (by omega) hS (yy_freeAt (i := 1) hd (by omega) hS (nm_e (br_c (fun _ => hp) (fun z => br_f (h.resolve_left z) hp))))
theorem yo_bind_bad {x : Int32} (h : x < 0 ∨ nI 4 ≤ x) (hp : posr (-1) (nI m, nI d, li, yc, wt, he, yl, ye, yk, pP, yn, pF, stk, me, mt, cl, wa, va, ic)) : wpY_bind posr (nI m, nI d, li, yc, wt, he, yl, ye, yk, pP, yn, pF, stk, me, mt, cl, wa, va, ic) x := by
  unfold wpY_bind
  dsimp only
  exact yy_isName0 h (br_t rfl hp)
theorem yo_function_bad {x y : Int32} (h : x < 0 ∨ nI 4 ≤ x) (hp : posr (-1) (nI m, nI d, li, yc, wt, he, yl, ye, yk, pP, yn, pF, stk, me, mt, cl, wa, va, ic)) : wpY_function posr (nI m, nI d, li, yc, wt, he, yl, ye, yk, pP, yn, pF, stk, me, mt, cl, wa, va, ic) x y := by
  unfold wpY_function
  dsimp only
  exact yy_isName0 h (br_t rfl hp)
theorem yo_function_bad2 {f : Nat} {y : Int32} (hf : f < 4) (h : y < 0 ∨ nI 4 ≤ y) (hp : posr (-1) (nI m, nI d, li, yc, wt, he, yl, ye, yk, pP, yn, pF, stk, me, mt, cl, wa, va, ic)) : wpY_function posr (nI m, nI d, li, yc, wt, he, yl, ye, yk, pP, yn, pF, stk, me, mt, cl, wa, va, ic) (nI f) y := by
  unfold wpY_function
  dsimp only
  exact yy_isName1 hf (br_f (by decide) (yy_isName0 h (br_t rfl hp)))
theorem yo_two_full {o : Nat} (ho : o < 5) (hd : d ≤ 6) (hS : ∀ j, j < d → ∃ q, q < 24 ∧ stk j = nI q) (h : m = 24) (hp : posr (-2) (nI m, nI d, li, yc, wt, he, yl, ye, yk, pP, yn, pF, stk, me, mt, cl, wa, va, ic)) : wpY_two posr (nI m, nI d, li, yc, wt, he, yl, ye, yk, pP, yn, pF, stk, me, mt, cl, wa, va, ic) (nI o) := by
  unfold wpY_two
  dsimp only
  exact yy_freeAt (i := 0) hd (by omega) hS (yy_freeAt (i := 1) hd (by omega) hS (nm_e (br_f (nI_pos (by omega)) (br_t (nI_le (b := 4) (by omega) (by decide)) (yy_make_full h hp)))))
theorem yo_two_few {o : Nat} (ho : o < 5) (hd : d ≤ 6) (hS : ∀ j, j < d → ∃ q, q < 24 ∧ stk j = nI q) (hm : m < 24) (h : d < 2) (hp : posr (-3) (nI m, nI d, li, yc, wt, he, yl, ye, yk, pP, yn, pF, stk, me, mt, cl, wa, va, ic)) : wpY_two posr (nI m, nI d, li, yc, wt, he, yl, ye, yk, pP, yn, pF, stk, me, mt, cl, wa, va, ic) (nI o) := by
  unfold wpY_two
  dsimp only
  exact yy_freeAt (i := 0) hd (by omega) hS (yy_freeAt (i := 1) hd (by omega) hS (nm_e (br_f (nI_pos (by omega)) (br_t (nI_le (b := 4) (by omega) (by decide)) (yy_make_few (cnt := 2) hm h (by omega) hp)))))
theorem yo_two_ok {o : Nat} (ho : o < 5) {g : Nat} {F : Int32} (hd : g + 2 ≤ 6) (hS : ∀ j, j < (g + 2) → ∃ q, q < 24 ∧ stk j = nI q) (hm : m < 24) (hF : (cc_fa pF stk (g + 2) 0 ||| cc_fa pF stk (g + 2) 1) = F)
    (hp : posr (nI (g + 1)) (nI (m + 1), nI (g + 1), li, yc, wt, he, yl, ye, upd yk m (nI o), cc_cp pP stk (3 * m) g 2, upd yn m 0, upd pF m F, upd stk g (nI m), me, mt, cl, wa, va, ic)) : wpY_two posr (nI m, nI (g + 2), li, yc, wt, he, yl, ye, yk, pP, yn, pF, stk, me, mt, cl, wa, va, ic) (nI o) := by
  unfold wpY_two
  dsimp only
  exact yy_freeAt (i := 0) hd (by omega) hS (yy_freeAt (i := 1) hd (by omega) hS (nm_r hF (br_f (nI_pos (by omega)) (br_t (nI_le (b := 4) (by omega) (by decide)) (yy_make_ok (cnt := 2) hm (by omega) hd (by omega) hp)))))
theorem yo_choose_full  (hd : d ≤ 6) (hS : ∀ j, j < d → ∃ q, q < 24 ∧ stk j = nI q) (h : m = 24) (hp : posr (-2) (nI m, nI d, li, yc, wt, he, yl, ye, yk, pP, yn, pF, stk, me, mt, cl, wa, va, ic)) : wpY_choose posr (nI m, nI d, li, yc, wt, he, yl, ye, yk, pP, yn, pF, stk, me, mt, cl, wa, va, ic)  := by
  unfold wpY_choose
  dsimp only
  exact yy_freeAt (i := 0) hd (by omega) hS (yy_freeAt (i := 1) hd (by omega) hS (yy_freeAt (i := 2) hd (by omega) hS (nm_e (yy_make_full h hp))))
theorem yo_choose_few  (hd : d ≤ 6) (hS : ∀ j, j < d → ∃ q, q < 24 ∧ stk j = nI q) (hm : m < 24) (h : d < 3) (hp : posr (-3) (nI m, nI d, li, yc, wt, he, yl, ye, yk, pP, yn, pF, stk, me, mt, cl, wa, va, ic)) : wpY_choose posr (nI m, nI d, li, yc, wt, he, yl, ye, yk, pP, yn, pF, stk, me, mt, cl, wa, va, ic)  := by
  unfold wpY_choose
  dsimp only
  exact yy_freeAt (i := 0) hd (by omega) hS (yy_freeAt (i := 1) hd (by omega) hS (yy_freeAt (i := 2) hd (by omega) hS (nm_e (yy_make_few (cnt := 3) hm h (by omega) hp))))
theorem yo_choose_ok  {g : Nat} {F : Int32} (hd : g + 3 ≤ 6) (hS : ∀ j, j < (g + 3) → ∃ q, q < 24 ∧ stk j = nI q) (hm : m < 24) (hF : ((cc_fa pF stk (g + 3) 0 ||| cc_fa pF stk (g + 3) 1) ||| cc_fa pF stk (g + 3) 2) = F)
    (hp : posr (nI (g + 1)) (nI (m + 1), nI (g + 1), li, yc, wt, he, yl, ye, upd yk m 5, cc_cp pP stk (3 * m) g 3, upd yn m 0, upd pF m F, upd stk g (nI m), me, mt, cl, wa, va, ic)) : wpY_choose posr (nI m, nI (g + 3), li, yc, wt, he, yl, ye, yk, pP, yn, pF, stk, me, mt, cl, wa, va, ic)  := by
  unfold wpY_choose
  dsimp only
  exact yy_freeAt (i := 0) hd (by omega) hS (yy_freeAt (i := 1) hd (by omega) hS (yy_freeAt (i := 2) hd (by omega) hS (nm_r hF (yy_make_ok (cnt := 3) hm (by omega) hd (by omega) hp))))
theorem yo_bind_full {w : Nat} (hw : w < 4) (hd : d ≤ 6) (hS : ∀ j, j < d → ∃ q, q < 24 ∧ stk j = nI q) (h : m = 24) (hp : posr (-2) (nI m, nI d, li, yc, wt, he, yl, ye, yk, pP, yn, pF, stk, me, mt, cl, wa, va, ic)) : wpY_bind posr (nI m, nI d, li, yc, wt, he, yl, ye, yk, pP, yn, pF, stk, me, mt, cl, wa, va, ic) (nI w) := by
  unfold wpY_bind
  dsimp only
  exact yy_isName1 hw (br_f (by decide) (yy_freeAt (i := 1) hd (by omega) hS (yy_freeAt (i := 0) hd (by omega) hS (nm_e (yy_make_full h hp)))))
theorem yo_bind_few {w : Nat} (hw : w < 4) (hd : d ≤ 6) (hS : ∀ j, j < d → ∃ q, q < 24 ∧ stk j = nI q) (hm : m < 24) (h : d < 2) (hp : posr (-3) (nI m, nI d, li, yc, wt, he, yl, ye, yk, pP, yn, pF, stk, me, mt, cl, wa, va, ic)) : wpY_bind posr (nI m, nI d, li, yc, wt, he, yl, ye, yk, pP, yn, pF, stk, me, mt, cl, wa, va, ic) (nI w) := by
  unfold wpY_bind
  dsimp only
  exact yy_isName1 hw (br_f (by decide) (yy_freeAt (i := 1) hd (by omega) hS (yy_freeAt (i := 0) hd (by omega) hS (nm_e (yy_make_few (cnt := 2) hm h (by omega) hp)))))
theorem yo_bind_ok {w : Nat} (hw : w < 4) {g : Nat} {F : Int32} (hd : g + 2 ≤ 6) (hS : ∀ j, j < (g + 2) → ∃ q, q < 24 ∧ stk j = nI q) (hm : m < 24) (hF : (cc_fa pF stk (g + 2) 1 ||| (cc_fa pF stk (g + 2) 0 &&& (((1 : Int32) <<< (nI w &&& 31)) ^^^ (-1)))) = F)
    (hp : posr (nI (g + 1)) (nI (m + 1), nI (g + 1), li, yc, wt, he, yl, ye, upd yk m 6, cc_cp pP stk (3 * m) g 2, upd yn m (nI w), upd pF m F, upd stk g (nI m), me, mt, cl, wa, va, ic)) : wpY_bind posr (nI m, nI (g + 2), li, yc, wt, he, yl, ye, yk, pP, yn, pF, stk, me, mt, cl, wa, va, ic) (nI w) := by
  unfold wpY_bind
  dsimp only
  exact yy_isName1 hw (br_f (by decide) (yy_freeAt (i := 1) hd (by omega) hS (yy_freeAt (i := 0) hd (by omega) hS (nm_r hF (yy_make_ok (cnt := 2) hm (by omega) hd (by omega) hp)))))
theorem yo_function_full {f w : Nat} (hf : f < 4) (hw : w < 4) (hd : d ≤ 6) (hS : ∀ j, j < d → ∃ q, q < 24 ∧ stk j = nI q) (h : m = 24) (hp : posr (-2) (nI m, nI d, li, yc, wt, he, yl, ye, yk, pP, yn, pF, stk, me, mt, cl, wa, va, ic)) : wpY_function posr (nI m, nI d, li, yc, wt, he, yl, ye, yk, pP, yn, pF, stk, me, mt, cl, wa, va, ic) (nI f) (nI w) := by
  unfold wpY_function
  dsimp only
  exact yy_isName1 hf (br_f (by decide) (yy_isName1 hw (br_f (by decide) (yy_freeAt (i := 0) hd (by omega) hS (nm_e (yy_make_full h hp))))))
theorem yo_function_few {f w : Nat} (hf : f < 4) (hw : w < 4) (hd : d ≤ 6) (hS : ∀ j, j < d → ∃ q, q < 24 ∧ stk j = nI q) (hm : m < 24) (h : d < 1) (hp : posr (-3) (nI m, nI d, li, yc, wt, he, yl, ye, yk, pP, yn, pF, stk, me, mt, cl, wa, va, ic)) : wpY_function posr (nI m, nI d, li, yc, wt, he, yl, ye, yk, pP, yn, pF, stk, me, mt, cl, wa, va, ic) (nI f) (nI w) := by
  unfold wpY_function
  dsimp only
  exact yy_isName1 hf (br_f (by decide) (yy_isName1 hw (br_f (by decide) (yy_freeAt (i := 0) hd (by omega) hS (nm_e (yy_make_few (cnt := 1) hm h (by omega) hp))))))
theorem yo_function_ok {f w : Nat} (hf : f < 4) (hw : w < 4) {g : Nat} {F : Int32} (hd : g + 1 ≤ 6) (hS : ∀ j, j < (g + 1) → ∃ q, q < 24 ∧ stk j = nI q) (hm : m < 24) (hF : ((cc_fa pF stk (g + 1) 0 &&& (((1 : Int32) <<< (nI f &&& 31)) ^^^ (-1))) &&& (((1 : Int32) <<< (nI w &&& 31)) ^^^ (-1))) = F)
    (hp : posr (nI (g + 1)) (nI (m + 1), nI (g + 1), li, yc, wt, he, yl, ye, upd yk m 7, cc_cp pP stk (3 * m) g 1, upd yn m (nI (4 * f + w)), upd pF m F, upd stk g (nI m), me, mt, cl, wa, va, ic)) : wpY_function posr (nI m, nI (g + 1), li, yc, wt, he, yl, ye, yk, pP, yn, pF, stk, me, mt, cl, wa, va, ic) (nI f) (nI w) := by
  unfold wpY_function
  dsimp only
  rw [cc_y4]
  exact yy_isName1 hf (br_f (by decide) (yy_isName1 hw (br_f (by decide) (yy_freeAt (i := 0) hd (by omega) hS (nm_r hF (yy_make_ok (cnt := 1) hm (by omega) hd (by omega) hp))))))
end
