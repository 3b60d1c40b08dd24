/-! the running part: tasks, results, scopes against lists, closures; ghosts ek ew (what a list says of a name) -/
def cc_VK (c : Nat) (k w : Int32) : Prop := k = 0 ∨ (k = 1 ∧ ∃ j, j < c ∧ w = nI j)
theorem cc_VK_up {c c' : Nat} {k w : Int32} (hc : c ≤ c') (h : cc_VK c k w) : cc_VK c' k w := by
  rcases h with h | ⟨h, j, hj, e⟩
  · exact Or.inl h
  · exact Or.inr ⟨h, j, by omega, e⟩
def cc_Q (sc e : Nat) (mK mV : Nat → Int32) (ek ew : Nat → Nat → Int32) (s l : Nat) : Prop :=
  s < sc ∧ l ≤ e ∧ ∀ v, v < 4 → mK (s * 4 + v) = ek l v ∧ mV (s * 4 + v) = ew l v
theorem cc_Q_up {sc sc' e e' : Nat} {mK mV mK' mV' : Nat → Int32} {ek ew ek' ew' : Nat → Nat → Int32} (h1 : sc ≤ sc') (h2 : e ≤ e') (h3 : ∀ j, j < sc * 4 → mK' j = mK j ∧ mV' j = mV j)
    (h4 : ∀ l v, l ≤ e → ek' l v = ek l v ∧ ew' l v = ew l v) : ∀ s l, cc_Q sc e mK mV ek ew s l → cc_Q sc' e' mK' mV' ek' ew' s l := by
  intro s l ⟨a, b, c⟩
  refine ⟨by omega, by omega, fun v hv => ?_⟩
  obtain ⟨c1, c2⟩ := c v hv
  obtain ⟨d1, d2⟩ := h3 (s * 4 + v) (by omega)
  obtain ⟨f1, f2⟩ := h4 l v b
  exact ⟨(d1.trans c1).trans f1.symm, (d2.trans c2).trans f2.symm⟩
def cc_E (e c : Nat) (me mt : Nat → Int32) (ek ew : Nat → Nat → Int32) : Prop :=
  (∀ v, v < 4 → ek 0 v = -1) ∧
  (∀ k, k < e → ∃ l n b, l ≤ k ∧ n < 4 ∧ b < 2 ∧ me k = nI (8 * l + 2 * n + b) ∧ ∀ v, v < 4 → ek (k + 1) v = (if v = n then nI b else ek l v) ∧ ew (k + 1) v = (if v = n then mt k else ew l v)) ∧
  (∀ l v, l ≤ e → v < 4 → ek l v = -1 ∨ cc_VK c (ek l v) (ew l v))
theorem cc_E_c {e c c' : Nat} {me mt : Nat → Int32} {ek ew : Nat → Nat → Int32} (hc : c ≤ c') (h : cc_E e c me mt ek ew) : cc_E e c' me mt ek ew :=
  ⟨h.1, h.2.1, fun l v hl hv => (h.2.2 l v hl hv).imp id (cc_VK_up hc)⟩
def cc_xe (f : Nat → Nat → Int32) (e l n : Nat) (x : Int32) : Nat → Nat → Int32 := fun l' v => if l' = e + 1 then (if v = n then x else f l v) else f l' v
theorem cc_xe_n {f : Nat → Nat → Int32} {e l n l' v : Nat} {x : Int32} (h : l' ≠ e + 1) : cc_xe f e l n x l' v = f l' v := if_neg h
theorem cc_xe_s {f : Nat → Nat → Int32} {e l n v : Nat} {x : Int32} : cc_xe f e l n x (e + 1) v = if v = n then x else f l v := if_pos rfl
theorem cc_E_add {e c l n b : Nat} {me mt : Nat → Int32} {ek ew : Nat → Nat → Int32} {w : Int32} (h : cc_E e c me mt ek ew) (hl : l ≤ e) (hn : n < 4) (hb : b < 2) (hv : cc_VK c (nI b) w) :
    cc_E (e + 1) c (upd me e (nI (8 * l + 2 * n + b))) (upd mt e w) (cc_xe ek e l n (nI b)) (cc_xe ew e l n w) := by
  obtain ⟨h0, h1, h2⟩ := h
  refine ⟨fun v hv => ?_, fun k hk => ?_, fun l' v hl' hv' => ?_⟩
  · rw [cc_xe_n (by omega)]; exact h0 v hv
  · by_cases hke : k = e
    · rw [hke]
      refine ⟨l, n, b, hl, hn, hb, pk_us, fun v hv => ⟨?_, ?_⟩⟩
      · rw [cc_xe_s, cc_xe_n (show l ≠ e + 1 by omega)]
      · rw [cc_xe_s, cc_xe_n (show l ≠ e + 1 by omega), pk_us]
    · obtain ⟨l1, n1, b1, q1, q2, q3, q4, q5⟩ := h1 k (by omega)
      refine ⟨l1, n1, b1, q1, q2, q3, (pk_un hke).trans q4, fun v hv => ⟨?_, ?_⟩⟩
      · rw [cc_xe_n (show k + 1 ≠ e + 1 by omega), cc_xe_n (show l1 ≠ e + 1 by omega)]; exact (q5 v hv).1
      · rw [cc_xe_n (show k + 1 ≠ e + 1 by omega), cc_xe_n (show l1 ≠ e + 1 by omega), pk_un hke]; exact (q5 v hv).2
  · by_cases he : l' = e + 1
    · subst he
      rw [cc_xe_s, cc_xe_s]
      by_cases hvn : v = n
      · rw [if_pos hvn, if_pos hvn]; exact Or.inr hv
      · rw [if_neg hvn, if_neg hvn]; exact h2 l v hl hv'
    · rw [cc_xe_n he, cc_xe_n he]; exact h2 l' v (by omega) hv'
def cc_C (m c : Nat) (Q : Nat → Nat → Prop) (pK cP cS cl : Nat → Int32) : Prop :=
  ∀ i, i < c → ∃ p s l, p < m ∧ Q s l ∧ pK p = 9 ∧ cP i = nI p ∧ cS i = nI s ∧ cl i = nI (32 * l + p)
theorem cc_C_up {m c : Nat} {Q Q' : Nat → Nat → Prop} {pK cP cS cl : Nat → Int32} (hQ : ∀ s l, Q s l → Q' s l) (h : cc_C m c Q pK cP cS cl) : cc_C m c Q' pK cP cS cl := by
  intro i hi
  obtain ⟨p, s, l, a, b, r⟩ := h i hi
  exact ⟨p, s, l, a, hQ s l b, r⟩
theorem cc_C_add {m c p s l : Nat} {Q : Nat → Nat → Prop} {pK cP cS cl : Nat → Int32} (h : cc_C m c Q pK cP cS cl) (hp : p < m) (hQ : Q s l) (hk : pK p = 9) :
    cc_C m (c + 1) Q pK (upd cP c (nI p)) (upd cS c (nI s)) (upd cl c (nI (32 * l + p))) := by
  intro i hi
  by_cases e : i = c
  · rw [e]; exact ⟨p, s, l, hp, hQ, hk, pk_us, pk_us, pk_us⟩
  · obtain ⟨p1, s1, l1, a, b, d, f, g, r⟩ := h i (by omega)
    exact ⟨p1, s1, l1, a, b, d, (pk_un e).trans f, (pk_un e).trans g, (pk_un e).trans r⟩
def cc_V (h c : Nat) (rK rV va ic : Nat → Int32) : Prop := ∀ i, i < h → va i = rV i ∧ ic i = rK i ∧ cc_VK c (rK i) (rV i)
theorem cc_V_lo {h h' c c' : Nat} {rK rV va ic : Nat → Int32} (hh : h' ≤ h) (hc : c ≤ c') (H : cc_V h c rK rV va ic) : cc_V h' c' rK rV va ic := by
  intro i hi
  obtain ⟨a, b, d⟩ := H i (by omega)
  exact ⟨a, b, cc_VK_up hc d⟩
theorem cc_V_add {h c : Nat} {rK rV va ic : Nat → Int32} {k w : Int32} (H : cc_V h c rK rV va ic) (hv : cc_VK c k w) : cc_V (h + 1) c (upd rK h k) (upd rV h w) (upd va h w) (upd ic h k) := by
  intro i hi
  by_cases e : i = h
  · rw [e, pk_us, pk_us, pk_us, pk_us]; exact ⟨rfl, rfl, hv⟩
  · rw [pk_un e, pk_un e, pk_un e, pk_un e]; exact H i (by omega)
def cc_hd : List (Nat × Nat × Nat × Nat) → Nat
  | [] => 1
  | x :: _ => x.2.2.1
def cc_sm (f : Nat → Nat → Nat) : List (Nat × Nat × Nat × Nat) → Nat
  | [] => 0
  | x :: t => f x.1 x.2.2.1 + cc_sm f t
def cc_c1 (sz rm : Nat → Nat) (p : Nat) : Nat → Nat
  | 0 => 30 * sz p
  | 1 => 30 * rm p + 29
  | _ => 1
def cc_c2 (sz rm : Nat → Nat) (p : Nat) : Nat → Nat
  | 0 => sz p - 1
  | 1 => rm p + 1
  | _ => 0
def cc_c3 (_ : Nat) : Nat → Nat
  | 2 => 1
  | _ => 0
def cc_b : Nat → Nat
  | 0 => 0
  | _ => 1
theorem cc_b1 {d : Nat} (h : d ≠ 0) : cc_b d = 1 := by
  cases d with
  | zero => exact absurd rfl h
  | succ d => rfl
theorem cc_c1_pos {sz rm : Nat → Nat} {p d : Nat} (h : 1 ≤ sz p) : 1 ≤ cc_c1 sz rm p d := by
  match d with
  | 0 => show 1 ≤ 30 * sz p; omega
  | 1 => show 1 ≤ 30 * rm p + 29; omega
  | d + 2 => exact Nat.le_refl 1
theorem cc_c3_le (p d : Nat) : cc_c3 p d ≤ 1 := by
  match d with
  | 0 => exact Nat.zero_le 1
  | 1 => exact Nat.zero_le 1
  | 2 => exact Nat.le_refl 1
  | d + 3 => exact Nat.zero_le 1
theorem cc_c3_len : ∀ T : List (Nat × Nat × Nat × Nat), cc_sm cc_c3 T ≤ T.length := by
  intro T
  induction T with
  | nil => exact Nat.le_refl 0
  | cons x t ih =>
    show cc_c3 x.1 x.2.2.1 + cc_sm cc_c3 t ≤ t.length + 1
    have := cc_c3_le x.1 x.2.2.1
    omega
def cc_dk (pK : Nat → Int32) (p d : Nat) : Prop := d = 0 ∨ (d = 1 ∧ (pK p = 7 ∨ pK p = 8 ∨ ∃ o, o < 5 ∧ pK p = nI o)) ∨ (d = 2 ∧ ∃ o, o < 5 ∧ pK p = nI o)
def cc_TI (m ca : Nat) (pK : Nat → Int32) (sz : Nat → Nat) (Q : Nat → Nat → Prop) (tP tS tD wa : Nat → Int32) : List (Nat × Nat × Nat × Nat) → Prop
  | [] => True
  | x :: t => (x.1 < m ∧ Q x.2.1 x.2.2.2 ∧ tP t.length = nI x.1 ∧ tS t.length = nI x.2.1 ∧ tD t.length = nI x.2.2.1 ∧ wa t.length = nI ((32 * x.2.2.2 + x.1) * 4 + x.2.2.1) ∧ 2 * t.length + sz x.1 ≤ 24 + 20 * ca ∧ cc_dk pK x.1 x.2.2.1 ∧ cc_hd t ≠ 0) ∧ cc_TI m ca pK sz Q tP tS tD wa t
theorem cc_TI_up {m ca ca' : Nat} {pK : Nat → Int32} {sz : Nat → Nat} {Q Q' : Nat → Nat → Prop} {tP tS tD wa tP' tS' tD' wa' : Nat → Int32} (hca : ca ≤ ca') (hQ : ∀ s l, Q s l → Q' s l) :
    ∀ T : List (Nat × Nat × Nat × Nat), (∀ i, i < T.length → tP' i = tP i ∧ tS' i = tS i ∧ tD' i = tD i ∧ wa' i = wa i) → cc_TI m ca pK sz Q tP tS tD wa T → cc_TI m ca' pK sz Q' tP' tS' tD' wa' T := by
  intro T
  induction T with
  | nil => intro _ _; trivial
  | cons x t ih =>
    intro hf ⟨⟨a1, a2, a3, a4, a5, a6, a7, a8, a9⟩, b⟩
    obtain ⟨f1, f2, f3, f4⟩ := hf t.length (Nat.lt_succ_self _)
    exact ⟨⟨a1, hQ _ _ a2, f1.trans a3, f2.trans a4, f3.trans a5, f4.trans a6, by omega, a8, a9⟩, ih (fun i hi => hf i (Nat.lt_succ_of_lt hi)) b⟩
theorem cc_TI_rep {m ca ca' q s' l' : Nat} {pK : Nat → Int32} {sz : Nat → Nat} {Q Q' : Nat → Nat → Prop} {tP tS tD wa : Nat → Int32} {x : Nat × Nat × Nat × Nat} {t : List (Nat × Nat × Nat × Nat)}
    (h : cc_TI m ca pK sz Q tP tS tD wa (x :: t)) (hca : ca ≤ ca') (hQ : ∀ s l, Q s l → Q' s l) (hq : q < m) (hq2 : Q' s' l') (hz : 2 * t.length + sz q ≤ 24 + 20 * ca') :
    cc_TI m ca' pK sz Q' (upd tP t.length (nI q)) (upd tS t.length (nI s')) (upd tD t.length 0) (upd wa t.length (nI ((32 * l' + q) * 4 + 0))) ((q, s', 0, l') :: t) := by
  obtain ⟨⟨a1, a2, a3, a4, a5, a6, a7, a8, a9⟩, b⟩ := h
  refine ⟨⟨hq, hq2, pk_us, pk_us, pk_us, pk_us, hz, Or.inl rfl, a9⟩, cc_TI_up hca hQ t (fun i hi => ?_) b⟩
  have e : i ≠ t.length := by omega
  exact ⟨pk_un e, pk_un e, pk_un e, pk_un e⟩
theorem cc_TI_next {m ca p s d l q : Nat} {pK : Nat → Int32} {sz : Nat → Nat} {Q : Nat → Nat → Prop} {tP tS tD wa : Nat → Int32} {t : List (Nat × Nat × Nat × Nat)}
    (h : cc_TI m ca pK sz Q tP tS tD wa ((p, s, d, l) :: t)) (hq : q < m) (hz : sz q + 2 ≤ sz p) (hd : cc_dk pK p (d + 1)) :
    cc_TI m ca pK sz Q (upd tP (t.length + 1) (nI q)) (upd tS (t.length + 1) (nI s)) (upd (upd tD t.length (nI (d + 1))) (t.length + 1) 0)
      (upd (upd wa t.length (nI ((32 * l + p) * 4 + (d + 1)))) (t.length + 1) (nI ((32 * l + q) * 4 + 0))) ((q, s, 0, l) :: (p, s, d + 1, l) :: t) := by
  obtain ⟨⟨a1, a2, a3, a4, a5, a6, a7, a8, a9⟩, b⟩ := h
  have e : t.length ≠ t.length + 1 := by omega
  have a7' : 2 * t.length + sz p ≤ 24 + 20 * ca := a7
  refine ⟨⟨hq, a2, pk_us, pk_us, pk_us, pk_us, ?_, Or.inl rfl, Nat.succ_ne_zero d⟩, ⟨a1, a2, (pk_un e).trans a3, (pk_un e).trans a4, (pk_un e).trans pk_us, (pk_un e).trans pk_us, a7, hd, a9⟩, cc_TI_up (Nat.le_refl ca) (fun _ _ z => z) t (fun i hi => ?_) b⟩
  · show 2 * (t.length + 1) + sz q ≤ 24 + 20 * ca
    omega
  · have e1 : i ≠ t.length + 1 := by omega
    have e2 : i ≠ t.length := by omega
    exact ⟨pk_un e1, pk_un e1, (pk_un e1).trans (pk_un e2), (pk_un e1).trans (pk_un e2)⟩
/-- the numbers -/
def cc_N (sz rm : Nat → Nat) (T : List (Nat × Nat × Nat × Nat)) (h e sc c ca : Nat) : Prop :=
  h = cc_sm cc_c3 T + cc_b (cc_hd T) ∧ 2 * e + cc_sm (cc_c2 sz rm) T + 26 * (60 - ca) ≤ 1583 ∧ sc ≤ e + 1 ∧ ca ≤ 60 ∧ cc_sm (cc_c1 sz rm) T + 59 * c + 691 * (60 - ca) ≤ 42180
def cc_M (sz rm : Nat → Nat) (T : List (Nat × Nat × Nat × Nat)) (c ca : Nat) : Nat := cc_sm (cc_c1 sz rm) T + 59 * c + 691 * (60 - ca)
