section EX5
variable {M : aM} {d : Nat} {z : Bool} {bu : Nat × Nat} {sx : Nat × (Nat → Int32)} {Γ : List aC} {pc : Nat} {L : List (Option Value)} {st st0 : List Value} {σ : Sg} {Q : Option Value → List aC → Sg → Prop}
theorem X_topI {e : Int32} {P : Int32 → Prop} (h : bd e P) (K : ∀ x, P x → Ex M d z bu sx Γ pc L (.int x :: st) σ Q) : Ex M d z bu sx Γ pc L (.int e :: st) σ Q := K e (h e rfl)
theorem X_topJ {e : Int64} {P : Int64 → Prop} (h : bd e P) (K : ∀ x, P x → Ex M d z bu sx Γ pc L (.long x :: st) σ Q) : Ex M d z bu sx Γ pc L (.long e :: st) σ Q := K e (h e rfl)
theorem X_drop {L' : List (Option Value)} (hs : subL L' L) (k : Ex M d z bu sx Γ pc L' st σ Q) : Ex M d z bu sx Γ pc L st σ Q := X_sub (subL_ok L' L hs) k
theorem tbl_out {x : Int32} {lo hi : Int} (h : ∀ j : Int, lo ≤ j → j ≤ hi → ¬ x.toInt = j) : x.toInt < lo ∨ hi < x.toInt := by
  by_cases h1 : x.toInt < lo
  · exact Or.inl h1
  · by_cases h2 : hi < x.toInt
    · exact Or.inr h2
    · exact absurd rfl (h x.toInt (by omega) (by omega))
theorem ne_toInt {x y : Int32} (h : ¬ x = y) : ¬ x.toInt = y.toInt := fun e => h (Int32.toInt_inj.mp e)
theorem X_callSi {N : aM} {d' n idx : Nat} (av : List Value) (st : List Value) {P : Int32 → Sg → Prop} (hc : CS N n) (hst : Cond.static N.1 ∈ lG) (hlk : Cond.methodLink M.1.cls idx N.1 ∈ lG) (hd : decode M.2.1 pc = .ok (.invokestatic idx, 3)) (hn : av.length = n) (hdd : d' + 1 ≤ d) (hr : (st.map fun v => v.category).sum ≤ 8) (hs : st0 = av.reverse ++ st) (hcall : Ct N d' false (0, 0) sx G0 av σ (qI P)) (K : ∀ (v : Int32) (σ' : Sg), P v σ' → Ex M d false (0, 0) sx G0 (pc + 3) L (.int v :: st) σ' Q) : Ex M d false (0, 0) sx G0 pc L st0 σ Q := by
  refine X_callS (bc := (0, 0)) (bu := (0, 0)) hc hst hlk hd hn hdd hr hs hcall ?_
  rintro r Γ' σ' ⟨rfl, v, rfl, h⟩
  exact K v σ' h
theorem X_callSl {N : aM} {d' n idx : Nat} (av : List Value) (st : List Value) {P : Int64 → Sg → Prop} (hc : CS N n) (hst : Cond.static N.1 ∈ lG) (hlk : Cond.methodLink M.1.cls idx N.1 ∈ lG) (hd : decode M.2.1 pc = .ok (.invokestatic idx, 3)) (hn : av.length = n) (hdd : d' + 1 ≤ d) (hr : (st.map fun v => v.category).sum ≤ 8) (hs : st0 = av.reverse ++ st) (hcall : Ct N d' false (0, 0) sx G0 av σ (qJ P)) (K : ∀ (v : Int64) (σ' : Sg), P v σ' → Ex M d false (0, 0) sx G0 (pc + 3) L (.long v :: st) σ' Q) : Ex M d false (0, 0) sx G0 pc L st0 σ Q := by
  refine X_callS (bc := (0, 0)) (bu := (0, 0)) hc hst hlk hd hn hdd hr hs hcall ?_
  rintro r Γ' σ' ⟨rfl, v, rfl, h⟩
  exact K v σ' h
theorem X_callSv {N : aM} {d' n idx : Nat} (av : List Value) (st : List Value) {P : Sg → Prop} (hc : CS N n) (hst : Cond.static N.1 ∈ lG) (hlk : Cond.methodLink M.1.cls idx N.1 ∈ lG) (hd : decode M.2.1 pc = .ok (.invokestatic idx, 3)) (hn : av.length = n) (hdd : d' + 1 ≤ d) (hr : (st.map fun v => v.category).sum ≤ 8) (hs : st0 = av.reverse ++ st) (hcall : Ct N d' false (0, 0) sx G0 av σ (qV P)) (K : ∀ σ' : Sg, P σ' → Ex M d false (0, 0) sx G0 (pc + 3) L st σ' Q) : Ex M d false (0, 0) sx G0 pc L st0 σ Q := by
  refine X_callS (bc := (0, 0)) (bu := (0, 0)) hc hst hlk hd hn hdd hr hs hcall ?_
  rintro r Γ' σ' ⟨rfl, rfl, h⟩
  exact K σ' h
theorem X_callSNi {N : aM} {d' n idx : Nat} (av : List Value) (st : List Value) {P : Int32 → Sg → Prop} (hc : CS N n) (hst : Cond.static N.1 ∈ lG) (hlk : (M.1.cls, idx, N.1) ∈ nestL) (hd : decode M.2.1 pc = .ok (.invokestatic idx, 3)) (hn : av.length = n) (hdd : d' + 1 ≤ d) (hr : (st.map fun v => v.category).sum ≤ 8) (hs : st0 = av.reverse ++ st) (hcall : Ct N d' false (0, 0) sx G0 av σ (qI P)) (K : ∀ (v : Int32) (σ' : Sg), P v σ' → Ex M d false (0, 0) sx G0 (pc + 3) L (.int v :: st) σ' Q) : Ex M d false (0, 0) sx G0 pc L st0 σ Q := by
  refine X_callSN (bc := (0, 0)) (bu := (0, 0)) hc hst hlk hd hn hdd hr hs hcall ?_
  rintro r Γ' σ' ⟨rfl, v, rfl, h⟩
  exact K v σ' h
theorem X_callSNl {N : aM} {d' n idx : Nat} (av : List Value) (st : List Value) {P : Int64 → Sg → Prop} (hc : CS N n) (hst : Cond.static N.1 ∈ lG) (hlk : (M.1.cls, idx, N.1) ∈ nestL) (hd : decode M.2.1 pc = .ok (.invokestatic idx, 3)) (hn : av.length = n) (hdd : d' + 1 ≤ d) (hr : (st.map fun v => v.category).sum ≤ 8) (hs : st0 = av.reverse ++ st) (hcall : Ct N d' false (0, 0) sx G0 av σ (qJ P)) (K : ∀ (v : Int64) (σ' : Sg), P v σ' → Ex M d false (0, 0) sx G0 (pc + 3) L (.long v :: st) σ' Q) : Ex M d false (0, 0) sx G0 pc L st0 σ Q := by
  refine X_callSN (bc := (0, 0)) (bu := (0, 0)) hc hst hlk hd hn hdd hr hs hcall ?_
  rintro r Γ' σ' ⟨rfl, v, rfl, h⟩
  exact K v σ' h
theorem X_callSNv {N : aM} {d' n idx : Nat} (av : List Value) (st : List Value) {P : Sg → Prop} (hc : CS N n) (hst : Cond.static N.1 ∈ lG) (hlk : (M.1.cls, idx, N.1) ∈ nestL) (hd : decode M.2.1 pc = .ok (.invokestatic idx, 3)) (hn : av.length = n) (hdd : d' + 1 ≤ d) (hr : (st.map fun v => v.category).sum ≤ 8) (hs : st0 = av.reverse ++ st) (hcall : Ct N d' false (0, 0) sx G0 av σ (qV P)) (K : ∀ σ' : Sg, P σ' → Ex M d false (0, 0) sx G0 (pc + 3) L st σ' Q) : Ex M d false (0, 0) sx G0 pc L st0 σ Q := by
  refine X_callSN (bc := (0, 0)) (bu := (0, 0)) hc hst hlk hd hn hdd hr hs hcall ?_
  rintro r Γ' σ' ⟨rfl, rfl, h⟩
  exact K σ' h
theorem X_callVi {N : aM} {d' n idx : Nat} {i ci NN : Nat} {C : String} {T : u_T} {ks : List (Bool ⊕ Option Nat)} (av : List Value) (st : List Value) {P : Int32 → Sg → Prop} (hc : CS N n) (hin : Cond.instanceMethod N.1 ∈ lG ∧ Cond.selects N.1.cls N.1 N.1 ∈ lG) (hlk : Cond.methodLink M.1.cls idx N.1 ∈ lG) (hd : decode M.2.1 pc = .ok (.invokevirtual idx, 3)) (hΓ : G0[i]? = some (.inr (ci, ks))) (hC : vwCl[ci]? = some (C, T, NN)) (hCN : N.1.cls = C) (hn : av.length = n) (hdd : d' + 1 ≤ d) (hr : (st.map fun v => v.category).sum ≤ 8) (hs : st0 = av.reverse ++ .ref i :: st) (hcall : Ct N d' false (0, 0) sx G0 (.ref i :: av) σ (qI P)) (K : ∀ (v : Int32) (σ' : Sg), P v σ' → Ex M d false (0, 0) sx G0 (pc + 3) L (.int v :: st) σ' Q) : Ex M d false (0, 0) sx G0 pc L st0 σ Q := by
  refine X_callV (bc := (0, 0)) (bu := (0, 0)) hc hin hlk hd hΓ hC hCN hn hdd hr hs hcall ?_
  rintro r Γ' σ' ⟨rfl, v, rfl, h⟩
  exact K v σ' h
theorem X_callVl {N : aM} {d' n idx : Nat} {i ci NN : Nat} {C : String} {T : u_T} {ks : List (Bool ⊕ Option Nat)} (av : List Value) (st : List Value) {P : Int64 → Sg → Prop} (hc : CS N n) (hin : Cond.instanceMethod N.1 ∈ lG ∧ Cond.selects N.1.cls N.1 N.1 ∈ lG) (hlk : Cond.methodLink M.1.cls idx N.1 ∈ lG) (hd : decode M.2.1 pc = .ok (.invokevirtual idx, 3)) (hΓ : G0[i]? = some (.inr (ci, ks))) (hC : vwCl[ci]? = some (C, T, NN)) (hCN : N.1.cls = C) (hn : av.length = n) (hdd : d' + 1 ≤ d) (hr : (st.map fun v => v.category).sum ≤ 8) (hs : st0 = av.reverse ++ .ref i :: st) (hcall : Ct N d' false (0, 0) sx G0 (.ref i :: av) σ (qJ P)) (K : ∀ (v : Int64) (σ' : Sg), P v σ' → Ex M d false (0, 0) sx G0 (pc + 3) L (.long v :: st) σ' Q) : Ex M d false (0, 0) sx G0 pc L st0 σ Q := by
  refine X_callV (bc := (0, 0)) (bu := (0, 0)) hc hin hlk hd hΓ hC hCN hn hdd hr hs hcall ?_
  rintro r Γ' σ' ⟨rfl, v, rfl, h⟩
  exact K v σ' h
theorem X_callVv {N : aM} {d' n idx : Nat} {i ci NN : Nat} {C : String} {T : u_T} {ks : List (Bool ⊕ Option Nat)} (av : List Value) (st : List Value) {P : Sg → Prop} (hc : CS N n) (hin : Cond.instanceMethod N.1 ∈ lG ∧ Cond.selects N.1.cls N.1 N.1 ∈ lG) (hlk : Cond.methodLink M.1.cls idx N.1 ∈ lG) (hd : decode M.2.1 pc = .ok (.invokevirtual idx, 3)) (hΓ : G0[i]? = some (.inr (ci, ks))) (hC : vwCl[ci]? = some (C, T, NN)) (hCN : N.1.cls = C) (hn : av.length = n) (hdd : d' + 1 ≤ d) (hr : (st.map fun v => v.category).sum ≤ 8) (hs : st0 = av.reverse ++ .ref i :: st) (hcall : Ct N d' false (0, 0) sx G0 (.ref i :: av) σ (qV P)) (K : ∀ σ' : Sg, P σ' → Ex M d false (0, 0) sx G0 (pc + 3) L st σ' Q) : Ex M d false (0, 0) sx G0 pc L st0 σ Q := by
  refine X_callV (bc := (0, 0)) (bu := (0, 0)) hc hin hlk hd hΓ hC hCN hn hdd hr hs hcall ?_
  rintro r Γ' σ' ⟨rfl, rfl, h⟩
  exact K σ' h
def imax (x y : Int32) : Int32 := if x < y then y else x
def imin (x y : Int32) : Int32 := if y < x then y else x
def iabs (x : Int32) : Int32 := if 0 ≤ x then x else 0 - x
def lmax (x y : Int64) : Int64 := if y < x then x else y
theorem mw_max : Cond.static Lib.Math.max.name ∈ lG ∧ Cond.initialized "java/lang/Math" ∈ lG ∧ Cond.code Lib.Math.max.name Lib.Math.max.code 2 (some .int) ∈ lG := ⟨inT (i := 552) (by decide +kernel) rfl, inT (i := 15) (by decide +kernel) rfl, inT (i := 553) (by decide +kernel) rfl⟩
theorem X_mmax {x y : Int32} {idx : Nat} (hlk : Cond.methodLink M.1.cls idx Lib.Math.max.name ∈ lG) (hd : decode M.2.1 pc = .ok (.invokestatic idx, 3)) (hdd : 1 ≤ d) (hr : (st.map fun v => v.category).sum ≤ 8) (K : Ex M d z bu sx Γ (pc + 3) L (.int (imax x y) :: st) σ Q) : Ex M d z bu sx Γ pc L (.int y :: .int x :: st) σ Q := by
  intro p l e R s m args below meth c E H locs cells slots ls HC Hw hl hb
  have hlo := HC.2.2.2.2.2.2.2.2.2.2
  have hts := HC.2.2.2.2.2.1
  refine va_mmax HC.1 HC.2.1 (HC.2.2.2.1.trans hl.1.symm) HC.2.2.2.2.1 (hts _ hlk) (hts _ mw_max.1) (hts _ mw_max.2.1) (hts _ mw_max.2.2) (Nat.le_trans hdd HC.2.2.2.2.2.2.2.2.2.1) (by rw [cat_map]; omega) (Nat.le_trans (Nat.le_add_right _ _) hb.1) (Nat.le_trans (Nat.le_add_right _ _) hb.2) hd ?_
  exact K p l e R s m args below meth c E H locs cells slots ls HC Hw hl hb
theorem mw_min : Cond.static Lib.Math.min.name ∈ lG ∧ Cond.initialized "java/lang/Math" ∈ lG ∧ Cond.code Lib.Math.min.name Lib.Math.min.code 2 (some .int) ∈ lG := ⟨inT (i := 555) (by decide +kernel) rfl, inT (i := 15) (by decide +kernel) rfl, inT (i := 556) (by decide +kernel) rfl⟩
theorem X_mmin {x y : Int32} {idx : Nat} (hlk : Cond.methodLink M.1.cls idx Lib.Math.min.name ∈ lG) (hd : decode M.2.1 pc = .ok (.invokestatic idx, 3)) (hdd : 1 ≤ d) (hr : (st.map fun v => v.category).sum ≤ 8) (K : Ex M d z bu sx Γ (pc + 3) L (.int (imin x y) :: st) σ Q) : Ex M d z bu sx Γ pc L (.int y :: .int x :: st) σ Q := by
  intro p l e R s m args below meth c E H locs cells slots ls HC Hw hl hb
  have hlo := HC.2.2.2.2.2.2.2.2.2.2
  have hts := HC.2.2.2.2.2.1
  refine va_mmin HC.1 HC.2.1 (HC.2.2.2.1.trans hl.1.symm) HC.2.2.2.2.1 (hts _ hlk) (hts _ mw_min.1) (hts _ mw_min.2.1) (hts _ mw_min.2.2) (Nat.le_trans hdd HC.2.2.2.2.2.2.2.2.2.1) (by rw [cat_map]; omega) (Nat.le_trans (Nat.le_add_right _ _) hb.1) (Nat.le_trans (Nat.le_add_right _ _) hb.2) hd ?_
  exact K p l e R s m args below meth c E H locs cells slots ls HC Hw hl hb
theorem mw_abs : Cond.static Lib.Math.abs.name ∈ lG ∧ Cond.initialized "java/lang/Math" ∈ lG ∧ Cond.code Lib.Math.abs.name Lib.Math.abs.code 1 (some .int) ∈ lG := ⟨inT (i := 636) (by decide +kernel) rfl, inT (i := 15) (by decide +kernel) rfl, inT (i := 637) (by decide +kernel) rfl⟩
theorem X_mabs {x : Int32} {idx : Nat} (hlk : Cond.methodLink M.1.cls idx Lib.Math.abs.name ∈ lG) (hd : decode M.2.1 pc = .ok (.invokestatic idx, 3)) (hdd : 1 ≤ d) (hr : (st.map fun v => v.category).sum ≤ 8) (K : Ex M d z bu sx Γ (pc + 3) L (.int (iabs x) :: st) σ Q) : Ex M d z bu sx Γ pc L (.int x :: st) σ Q := by
  intro p l e R s m args below meth c E H locs cells slots ls HC Hw hl hb
  have hlo := HC.2.2.2.2.2.2.2.2.2.2
  have hts := HC.2.2.2.2.2.1
  refine va_mabs HC.1 HC.2.1 (HC.2.2.2.1.trans hl.1.symm) HC.2.2.2.2.1 (hts _ hlk) (hts _ mw_abs.1) (hts _ mw_abs.2.1) (hts _ mw_abs.2.2) (Nat.le_trans hdd HC.2.2.2.2.2.2.2.2.2.1) (by rw [cat_map]; omega) (Nat.le_trans (Nat.le_add_right _ _) hb.1) (Nat.le_trans (Nat.le_add_right _ _) hb.2) hd ?_
  exact K p l e R s m args below meth c E H locs cells slots ls HC Hw hl hb
theorem mw_lmax : Cond.static Lib.MathLoose.max_long.x ∈ lG ∧ Cond.initialized "java/lang/Math" ∈ lG ∧ Cond.code Lib.MathLoose.max_long.x Lib.MathLoose.max_long.code 4 (some .long) ∈ lG := ⟨inT (i := 851) (by decide +kernel) rfl, inT (i := 15) (by decide +kernel) rfl, inT (i := 852) (by decide +kernel) rfl⟩
theorem X_mlmax {x y : Int64} {idx : Nat} (hlk : Cond.methodLink M.1.cls idx Lib.MathLoose.max_long.x ∈ lG) (hd : decode M.2.1 pc = .ok (.invokestatic idx, 3)) (hdd : 1 ≤ d) (hr : (st.map fun v => v.category).sum ≤ 8) (K : Ex M d z bu sx Γ (pc + 3) L (.long (lmax x y) :: st) σ Q) : Ex M d z bu sx Γ pc L (.long y :: .long x :: st) σ Q := by
  intro p l e R s m args below meth c E H locs cells slots ls HC Hw hl hb
  have hlo := HC.2.2.2.2.2.2.2.2.2.2
  have hts := HC.2.2.2.2.2.1
  refine va_mmax_long HC.1 HC.2.1 (HC.2.2.2.1.trans hl.1.symm) HC.2.2.2.2.1 (hts _ hlk) (hts _ mw_lmax.1) (hts _ mw_lmax.2.1) (hts _ mw_lmax.2.2) (Nat.le_trans hdd HC.2.2.2.2.2.2.2.2.2.1) (by rw [cat_map]; omega) (Nat.le_trans (Nat.le_add_right _ _) hb.1) (Nat.le_trans (Nat.le_add_right _ _) hb.2) hd ?_
  exact K p l e R s m args below meth c E H locs cells slots ls HC Hw hl hb
theorem fzb {r : Int32} (h : r = 0 ∨ r = 1) : fits .boolean (.int r) = true := by rcases h with rfl | rfl <;> rfl
theorem lk_out {dflt : Int} {x : Int} : ∀ {ps : List (Int × Int)}, (∀ q ∈ ps, ¬ x = q.1) → Op.lookupswitch.offset ps dflt x = dflt
  | [], _ => rfl
  | (a, o) :: ps, h => by
    rw [Op.lookupswitch.offset_cons, if_neg (by intro e; exact h (a, o) List.mem_cons_self (by first | exact e | exact e.symm))]
    exact lk_out (fun q hq => h q (List.mem_cons_of_mem _ hq))
def exC (j : Nat) : Nat → Int32 := exV (0, fun _ => 0) j
theorem X_reti {v : Int32} {P : Int32 → Sg → Prop} (hr : M.2.2.2 = some .int) (hd : decode M.2.1 pc = .ok (.ireturn, 1)) (h : P v σ) : Ex M d z bu sx G0 pc L [.int v] σ (qI P) := X_iret hr hd ⟨rfl, v, rfl, h⟩
theorem X_retz {v : Int32} {ty : FieldType} {P : Int32 → Sg → Prop} (hr : M.2.2.2 = some ty) (hn : narrow ty (.int v) = .int v) (hd : decode M.2.1 pc = .ok (.ireturn, 1)) (h : P v σ) : Ex M d z bu sx G0 pc L [.int v] σ (qI P) := X_zret hr hn hd ⟨rfl, v, rfl, h⟩
theorem X_retl {v : Int64} {P : Int64 → Sg → Prop} (hr : M.2.2.2 = some .long) (hd : decode M.2.1 pc = .ok (.lreturn, 1)) (h : P v σ) : Ex M d z bu sx G0 pc L [.long v] σ (qJ P) := X_lret hr hd ⟨rfl, v, rfl, h⟩
theorem X_retv {P : Sg → Prop} (hr : M.2.2.2 = none) (hd : decode M.2.1 pc = .ok (.return_, 1)) (h : P σ) : Ex M d z bu sx G0 pc L [] σ (qV P) := X_vret hr hd ⟨rfl, rfl, h⟩
end EX5
