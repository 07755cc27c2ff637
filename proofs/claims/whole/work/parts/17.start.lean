/-! the law's start: what the Statement gives of it -/
def stW (q : String × String × List Int32) : List Cond :=
  [.arrayOf (.static q.1 q.2.1 "[I") .int, .eq (.length (.static q.1 q.2.1 "[I")) (.int (Int32.ofNat q.2.2.length))] ++ (List.range q.2.2.length).map (fun j => .eq (.elem (.static q.1 q.2.1 "[I") (.int (Int32.ofNat j))) (.int (q.2.2.getD j 0)))
def stT (q : String × String × List Int32) : List Cond := [.laysStatic q.1 q.2.1 "[I", .initialized q.1]
theorem st_words : ∀ q ∈ stL, ∀ w ∈ stT q, w ∈ tables_1 := by decide +kernel
theorem nest_words : ∀ q ∈ nestL, Cond.methodLinkNest q.1 q.2.1 q.2.2 "CoachmenFace" ∈ tables_1 := by decide +kernel
theorem ao_words : Cond.arrayOver (.object "CoachmenFace$Coach") ∈ tables_1 ∧ Cond.arrayOver (.object "CoachmenFace$Shelf") ∈ tables_1 := by decide +kernel
theorem st_len : ∀ q ∈ stL, q.2.2.length < 100 := by decide +kernel
theorem in_tbl {w : Cond} (h : w ∈ tables_1) : w ∈ lw_tbl := List.mem_append_right _ h
theorem in_tblG {w : Cond} (h : w ∈ lG) : w ∈ lw_tbl := (List.mem_filter.mp h).1
theorem ac_of {s : State} {args : Array Value} {ty : FieldType} (hno : ∀ C, ty ≠ .object C) (h : (Cond.arrayClass ty).before args s = true) : ∃ c : ClassId, ArrOfT s c ty ∧ va_RA s c ty := by
  obtain ⟨c, k, comp, h1, h2, h3⟩ := Cond.arrayClass_spec h
  refine ⟨c, fun n z => ⟨(fun k h => by cases h), k, h2, comp, h3⟩, ?_⟩
  cases ty with
  | object C => exact absurd rfl (hno C)
  | _ => exact h1
theorem ao_of {s : State} {C : String} (h : va_AO C s) : ∃ c : ClassId, ArrOfT s c (.object C) ∧ va_RA s c (.object C) := by
  obtain ⟨comp, c, k, h1, h2, h3, h4, h5⟩ := Cond.arrayOver_spec h
  exact ⟨c, fun n z => ⟨(fun k h => by cases h), k, h3, comp, h4⟩, k, comp, h3, h4, h1, h5⟩
theorem cls_of {s : State} {args : Array Value} (hts : ∀ w ∈ lG, w.before args s = true) {ci : Nat} {C : String} {T : u_T} {N n : Nat} {ty : Nat → FieldType} (ck : CK ci C T N ty) (hi : Cond.instantiable C n ∈ lG) : ∃ (cC : ClassId) (iS : Nat → Nat), u_Kn s C T N cC iS := u_known hts ck.2.1 (hts _ hi)
theorem kn_all {s : State} {args : Array Value} (hts : ∀ w ∈ lG, w.before args s = true) : ∃ D : va_G, ∀ (c : Nat) (q : vw_C), vwCl[c]? = some q → u_Kn s q.1 q.2.1 q.2.2 (D.1 c) (D.2 c) := by
  have h : ∀ c : Nat, ∃ x : ClassId × (Nat → Nat), ∀ q : vw_C, vwCl[c]? = some q → u_Kn s q.1 q.2.1 q.2.2 x.1 x.2 := by
    intro c
    match c with
    | 0 =>
      obtain ⟨a, b, h⟩ := cls_of hts ck_X0 (n := 5) (inT (i := 334) (by decide +kernel) rfl)
      exact ⟨(a, b), fun q hq => by cases hq; exact h⟩
    | 1 =>
      obtain ⟨a, b, h⟩ := cls_of hts ck_X1 (n := 5) (inT (i := 230) (by decide +kernel) rfl)
      exact ⟨(a, b), fun q hq => by cases hq; exact h⟩
    | 2 =>
      obtain ⟨a, b, h⟩ := cls_of hts ck_X2 (n := 4) (inT (i := 252) (by decide +kernel) rfl)
      exact ⟨(a, b), fun q hq => by cases hq; exact h⟩
    | 3 =>
      obtain ⟨a, b, h⟩ := cls_of hts ck_X3 (n := 7) (inT (i := 166) (by decide +kernel) rfl)
      exact ⟨(a, b), fun q hq => by cases hq; exact h⟩
    | 4 =>
      obtain ⟨a, b, h⟩ := cls_of hts ck_X4 (n := 9) (inT (i := 272) (by decide +kernel) rfl)
      exact ⟨(a, b), fun q hq => by cases hq; exact h⟩
    | 5 =>
      obtain ⟨a, b, h⟩ := cls_of hts ck_X5 (n := 3) (inT (i := 214) (by decide +kernel) rfl)
      exact ⟨(a, b), fun q hq => by cases hq; exact h⟩
    | 6 =>
      obtain ⟨a, b, h⟩ := cls_of hts ck_X6 (n := 4) (inT (i := 195) (by decide +kernel) rfl)
      exact ⟨(a, b), fun q hq => by cases hq; exact h⟩
    | 7 =>
      obtain ⟨a, b, h⟩ := cls_of hts ck_X7 (n := 11) (inT (i := 27) (by decide +kernel) rfl)
      exact ⟨(a, b), fun q hq => by cases hq; exact h⟩
    | 8 =>
      obtain ⟨a, b, h⟩ := cls_of hts ck_X8 (n := 9) (inT (i := 98) (by decide +kernel) rfl)
      exact ⟨(a, b), fun q hq => by cases hq; exact h⟩
    | 9 =>
      obtain ⟨a, b, h⟩ := cls_of hts ck_X9 (n := 8) (inT (i := 132) (by decide +kernel) rfl)
      exact ⟨(a, b), fun q hq => by cases hq; exact h⟩
    | 10 =>
      obtain ⟨a, b, h⟩ := cls_of hts ck_X10 (n := 4) (inT (i := 308) (by decide +kernel) rfl)
      exact ⟨(a, b), fun q hq => by cases hq; exact h⟩
    | 11 =>
      obtain ⟨a, b, h⟩ := cls_of hts ck_X11 (n := 13) (inT (i := 19) (by decide +kernel) rfl)
      exact ⟨(a, b), fun q hq => by cases hq; exact h⟩
    | 12 =>
      obtain ⟨a, b, h⟩ := cls_of hts ck_X12 (n := 55) (inT (i := 1087) (by decide +kernel) rfl)
      exact ⟨(a, b), fun q hq => by cases hq; exact h⟩
    | c + 13 => exact ⟨(0, fun _ => 0), fun q hq => by simp [vwCl] at hq⟩
  exact ⟨(fun c => (Classical.choose (h c)).1, fun c => (Classical.choose (h c)).2), fun c q hq => Classical.choose_spec (h c) q hq⟩
theorem En_start {s : State} {b L : Nat} {xs : Nat → Int32} {args : Array Value} (hts : ∀ w ∈ lw_tbl, w.before args s = true) (hX : va_X b L xs s s.heap) (hbl : b < s.heap.size) (hL : L ≤ 3072) (hst : ∀ q ∈ stL, ∀ w ∈ stW q, w.before args s = true) :
    ∃ E : aE, E.1 = s.heap.size ∧ E.2.1 0 = b ∧ En E (L, xs) s s.heap := by
  have hG : ∀ w ∈ lG, w.before args s = true := fun w h => hts w (in_tblG h)
  have hAO1 : va_AO "CoachmenFace$Coach" s := va_AO.of (hts _ (in_tbl ao_words.1))
  have hAO2 : va_AO "CoachmenFace$Shelf" s := va_AO.of (hts _ (in_tbl ao_words.2))
  obtain ⟨D, hD⟩ := kn_all hG
  have hA0 : ∀ a : Nat, a < s.heap.size → ¬ (fun q => s.heap.size ≤ q) a := fun a h q => Nat.not_le.mpr h q
  have hsta : ∀ j : Nat, ∃ t : Nat, ∀ q, stL[j]? = some q → (Term.static q.1 q.2.1 "[I").eval args s none [] s = some (.ref t) ∧ va_T .int t q.2.2.length (fun i => .int (q.2.2.getD i 0)) (fun q => s.heap.size ≤ q) s s.heap := by
    intro j
    cases hq : stL[j]? with
    | none => exact ⟨0, fun q h => by cases h⟩
    | some q =>
      have hm : q ∈ stL := List.mem_of_getElem? hq
      have hw := hst q hm
      have hlen := st_len q hm
      obtain ⟨t, h1, h2⟩ := va_Tof (ty := .int) (A := fun q => s.heap.size ≤ q) (N := q.2.2.length) (f := fun i => .int (q.2.2.getD i 0)) (tm := .static q.1 q.2.1 "[I") (by omega) (hw _ (by simp [stW])) (va_eqt (hw _ (by simp [stW]))) (fun j hj => va_eqt (hw _ (by
        unfold stW
        refine List.mem_append_right _ (List.mem_map.mpr ⟨j, List.mem_range.mpr hj, rfl⟩)))) hA0
      exact ⟨t, fun q' hq' => by cases hq'; exact ⟨h1, h2⟩⟩
  obtain ⟨c1, a1⟩ := ac_of (ty := .int) (fun C h => by cases h) (hG _ ac_int)
  obtain ⟨c2, a2⟩ := ac_of (ty := .long) (fun C h => by cases h) (hG _ ac_long)
  obtain ⟨c3, a3⟩ := ac_of (ty := .byte) (fun C h => by cases h) (hG _ ac_byte)
  obtain ⟨c4, a4⟩ := ac_of (ty := .short) (fun C h => by cases h) (hG _ ac_short)
  obtain ⟨c5, a5⟩ := ao_of hAO1
  obtain ⟨c6, a6⟩ := ao_of hAO2
  refine ⟨(s.heap.size, (fun j => match j with | 0 => b | j + 1 => Classical.choose (hsta j)), D, fun ty => if ty = .int then c1 else if ty = .long then c2 else if ty = .byte then c3 else if ty = .short then c4 else if ty = .object "CoachmenFace$Coach" then c5 else c6), rfl, rfl, ⟨hD, ?_⟩, ?_, ⟨hAO1, hAO2⟩, ?_, ?_⟩
  · intro k q hk
    match k, hk with
    | 0, hk => cases hk; exact a1
    | 1, hk => cases hk; exact a2
    | 2, hk => cases hk; exact a3
    | 3, hk => cases hk; exact a4
    | 4, hk => cases hk; exact a5
    | 5, hk => cases hk; exact a6
    | k + 6, hk => simp [tyL] at hk
  · intro q hq
    exact va_Nw.of rfl (hts _ (in_tbl (nest_words q hq)))
  · intro j q hj
    have hm : q ∈ stL := List.mem_of_getElem? hj
    have hw := st_words q hm
    exact va_Zref (hts _ (in_tbl (hw _ (by simp [stT])))) (hts _ (in_tbl (hw _ (by simp [stT])))) (Classical.choose_spec (hsta j) q hj).1 hA0
  · intro j hj
    match j, hj with
    | 0, _ =>
      obtain ⟨scr, h1, h2, h3, h4, h5⟩ := hX
      exact ⟨scr, h1, h2, h3, Nat.le_of_eq h4.symm, by rw [h4]; rfl, fun j hj => h5 j hj, Nat.not_le.mpr hbl⟩
    | j + 1, hj =>
      have hj8 : j < stL.length := by show j < 8; omega
      have hq : stL[j]? = some stL[j] := List.getElem?_eq_getElem hj8
      have h := (Classical.choose_spec (hsta j) _ hq).2
      have e1 : exN (L, xs) (j + 1) = stL[j].2.2.length := by simp only [exN, hq]
      have e2 : exV (L, xs) (j + 1) = fun i => stL[j].2.2.getD i 0 := by simp only [exV, hq]
      rw [e1, e2]
      exact h
