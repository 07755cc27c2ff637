section EX5
variable {M : aM} {d : Nat} {z : Bool} {bu : Nat × Nat} {sx : Nat × (Nat → Int32)} {Γ : List aC} {pc : Nat} {L : List (Option Value)} {st st0 : List Value} {σ : Sg} {Q : Option Value → List aC → Sg → Prop}
theorem X_topI {e : Int32} {P : Int32 → Prop} (h : bd e P) (K : ∀ x, P x → Ex M d z bu sx Γ pc L (.int x :: st) σ Q) : Ex M d z bu sx Γ pc L (.int e :: st) σ Q := K e (h e rfl)
theorem X_topJ {e : Int64} {P : Int64 → Prop} (h : bd e P) (K : ∀ x, P x → Ex M d z bu sx Γ pc L (.long x :: st) σ Q) : Ex M d z bu sx Γ pc L (.long e :: st) σ Q := K e (h e rfl)
theorem X_drop {L' : List (Option Value)} (hs : subL L' L) (k : Ex M d z bu sx Γ pc L' st σ Q) : Ex M d z bu sx Γ pc L st σ Q := X_sub (subL_ok L' L hs) k
theorem tbl_out {x : Int32} {lo hi : Int} (h : ∀ j : Int, lo ≤ j → j ≤ hi → ¬ x.toInt = j) : x.toInt < lo ∨ hi < x.toInt := by
  by_cases h1 : x.toInt < lo
  · exact Or.inl h1
  · by_cases h2 : hi < x.toInt
    · exact Or.inr h2
    · exact absurd rfl (h x.toInt (by omega) (by omega))
theorem ne_toInt {x y : Int32} (h : ¬ x = y) : ¬ x.toInt = y.toInt := fun e => h (Int32.toInt_inj.mp e)
theorem X_callSi {N : aM} {d' n idx : Nat} (av : List Value) (st : List Value) {P : Int32 → Sg → Prop} (hc : CS N n) (hst : Cond.static N.1 ∈ lG) (hlk : Cond.methodLink M.1.cls idx N.1 ∈ lG) (hd : decode M.2.1 pc = .ok (.invokestatic idx, 3)) (hn : av.length = n) (hdd : d' + 1 ≤ d) (hr : (st.map fun v => v.category).sum ≤ 8) (hs : st0 = av.reverse ++ st) (hcall : Ct N d' false (0, 0) sx G0 av σ (qI P)) (K : ∀ (v : Int32) (σ' : Sg), P v σ' → Ex M d false (0, 0) sx G0 (pc + 3) L (.int v :: st) σ' Q) : Ex M d false (0, 0) sx G0 pc L st0 σ Q := by
  refine X_callS (bc := (0, 0)) (bu := (0, 0)) hc hst hlk hd hn hdd hr hs hcall ?_
  rintro r Γ' σ' ⟨rfl, v, rfl, h⟩
  exact K v σ' h
theorem X_callSl {N : aM} {d' n idx : Nat} (av : List Value) (st : List Value) {P : Int64 → Sg → Prop} (hc : CS N n) (hst : Cond.static N.1 ∈ lG) (hlk : Cond.methodLink M.1.cls idx N.1 ∈ lG) (hd : decode M.2.1 pc = .ok (.invokestatic idx, 3)) (hn : av.length = n) (hdd : d' + 1 ≤ d) (hr : (st.map fun v => v.category).sum ≤ 8) (hs : st0 = av.reverse ++ st) (hcall : Ct N d' false (0, 0) sx G0 av σ (qJ P)) (K : ∀ (v : Int64) (σ' : Sg), P v σ' → Ex M d false (0, 0) sx G0 (pc + 3) L (.long v :: st) σ' Q) : Ex M d false (0, 0) sx G0 pc L st0 σ Q := by
  refine X_callS (bc := (0, 0)) (bu := (0, 0)) hc hst hlk hd hn hdd hr hs hcall ?_
  rintro r Γ' σ' ⟨rfl, v, rfl, h⟩
  exact K v σ' h
theorem X_callSv {N : aM} {d' n idx : Nat} (av : List Value) (st : List Value) {P : Sg → Prop} (hc : CS N n) (hst : Cond.static N.1 ∈ lG) (hlk : Cond.methodLink M.1.cls idx N.1 ∈ lG) (hd : decode M.2.1 pc = .ok (.invokestatic idx, 3)) (hn : av.length = n) (hdd : d' + 1 ≤ d) (hr : (st.map fun v => v.category).sum ≤ 8) (hs : st0 = av.reverse ++ st) (hcall : Ct N d' false (0, 0) sx G0 av σ (qV P)) (K : ∀ σ' : Sg, P σ' → Ex M d false (0, 0) sx G0 (pc + 3) L st σ' Q) : Ex M d false (0, 0) sx G0 pc L st0 σ Q := by
  refine X_callS (bc := (0, 0)) (bu := (0, 0)) hc hst hlk hd hn hdd hr hs hcall ?_
  rintro r Γ' σ' ⟨rfl, rfl, h⟩
  exact K σ' h
theorem X_callSNi {N : aM} {d' n idx : Nat} (av : List Value) (st : List Value) {P : Int32 → Sg → Prop} (hc : CS N n) (hst : Cond.static N.1 ∈ lG) (hlk : (M.1.cls, idx, N.1) ∈ nestL) (hd : decode M.2.1 pc = .ok (.invokestatic idx, 3)) (hn : av.length = n) (hdd : d' + 1 ≤ d) (hr : (st.map fun v => v.category).sum ≤ 8) (hs : st0 = av.reverse ++ st) (hcall : Ct N d' false (0, 0) sx G0 av σ (qI P)) (K : ∀ (v : Int32) (σ' : Sg), P v σ' → Ex M d false (0, 0) sx G0 (pc + 3) L (.int v :: st) σ' Q) : Ex M d false (0, 0) sx G0 pc L st0 σ Q := by
  refine X_callSN (bc := (0, 0)) (bu := (0, 0)) hc hst hlk hd hn hdd hr hs hcall ?_
  rintro r Γ' σ' ⟨rfl, v, rfl, h⟩
  exact K v σ' h
theorem X_callSNl {N : aM} {d' n idx : Nat} (av : List Value) (st : List Value) {P : Int64 → Sg → Prop} (hc : CS N n) (hst : Cond.static N.1 ∈ lG) (hlk : (M.1.cls, idx, N.1) ∈ nestL) (hd : decode M.2.1 pc = .ok (.invokestatic idx, 3)) (hn : av.length = n) (hdd : d' + 1 ≤ d) (hr : (st.map fun v => v.category).sum ≤ 8) (hs : st0 = av.reverse ++ st) (hcall : Ct N d' false (0, 0) sx G0 av σ (qJ P)) (K : ∀ (v : Int64) (σ' : Sg), P v σ' → Ex M d false (0, 0) sx G0 (pc + 3) L (.long v :: st) σ' Q) : Ex M d false (0, 0) sx G0 pc L st0 σ Q := by
  refine X_callSN (bc := (0, 0)) (bu := (0, 0)) hc hst hlk hd hn hdd hr hs hcall ?_
  rintro r Γ' σ' ⟨rfl, v, rfl, h⟩
  exact K v σ' h
theorem X_callSNv {N : aM} {d' n idx : Nat} (av : List Value) (st : List Value) {P : Sg → Prop} (hc : CS N n) (hst : Cond.static N.1 ∈ lG) (hlk : (M.1.cls, idx, N.1) ∈ nestL) (hd : decode M.2.1 pc = .ok (.invokestatic idx, 3)) (hn : av.length = n) (hdd : d' + 1 ≤ d) (hr : (st.map fun v => v.category).sum ≤ 8) (hs : st0 = av.reverse ++ st) (hcall : Ct N d' false (0, 0) sx G0 av σ (qV P)) (K : ∀ σ' : Sg, P σ' → Ex M d false (0, 0) sx G0 (pc + 3) L st σ' Q) : Ex M d false (0, 0) sx G0 pc L st0 σ Q := by
  refine X_callSN (bc := (0, 0)) (bu := (0, 0)) hc hst hlk hd hn hdd hr hs hcall ?_
  rintro r Γ' σ' ⟨rfl, rfl, h⟩
  exact K σ' h
theorem X_callVi {N : aM} {d' n idx : Nat} {i ci NN : Nat} {C : String} {T : u_T} {ks : List (Bool ⊕ Option Nat)} (av : List Value) (st : List Value) {P : Int32 → Sg → Prop} (hc : CS N n) (hin : Cond.instanceMethod N.1 ∈ lG ∧ Cond.selects N.1.cls N.1 N.1 ∈ lG) (hlk : Cond.methodLink M.1.cls idx N.1 ∈ lG) (hd : decode M.2.1 pc = .ok (.invokevirtual idx, 3)) (hΓ : G0[i]? = some (.inr (ci, ks))) (hC : vwCl[ci]? = some (C, T, NN)) (hCN : N.1.cls = C) (hn : av.length = n) (hdd : d' + 1 ≤ d) (hr : (st.map fun v => v.category).sum ≤ 8) (hs : st0 = av.reverse ++ .ref i :: st) (hcall : Ct N d' false (0, 0) sx G0 (.ref i :: av) σ (qI P)) (K : ∀ (v : Int32) (σ' : Sg), P v σ' → Ex M d false (0, 0) sx G0 (pc + 3) L (.int v :: st) σ' Q) : Ex M d false (0, 0) sx G0 pc L st0 σ Q := by
  refine X_callV (bc := (0, 0)) (bu := (0, 0)) hc hin hlk hd hΓ hC hCN hn hdd hr hs hcall ?_
  rintro r Γ' σ' ⟨rfl, v, rfl, h⟩
  exact K v σ' h
theorem X_callVl {N : aM} {d' n idx : Nat} {i ci NN : Nat} {C : String} {T : u_T} {ks : List (Bool ⊕ Option Nat)} (av : List Value) (st : List Value) {P : Int64 → Sg → Prop} (hc : CS N n) (hin : Cond.instanceMethod N.1 ∈ lG ∧ Cond.selects N.1.cls N.1 N.1 ∈ lG) (hlk : Cond.methodLink M.1.cls idx N.1 ∈ lG) (hd : decode M.2.1 pc = .ok (.invokevirtual idx, 3)) (hΓ : G0[i]? = some (.inr (ci, ks))) (hC : vwCl[ci]? = some (C, T, NN)) (hCN : N.1.cls = C) (hn : av.length = n) (hdd : d' + 1 ≤ d) (hr : (st.map fun v => v.category).sum ≤ 8) (hs : st0 = av.reverse ++ .ref i :: st) (hcall : Ct N d' false (0, 0) sx G0 (.ref i :: av) σ (qJ P)) (K : ∀ (v : Int64) (σ' : Sg), P v σ' → Ex M d false (0, 0) sx G0 (pc + 3) L (.long v :: st) σ' Q) : Ex M d false (0, 0) sx G0 pc L st0 σ Q := by
  refine X_callV (bc := (0, 0)) (bu := (0, 0)) hc hin hlk hd hΓ hC hCN hn hdd hr hs hcall ?_
  rintro r Γ' σ' ⟨rfl, v, rfl, h⟩
  exact K v σ' h
theorem X_callVv {N : aM} {d' n idx : Nat} {i ci NN : Nat} {C : String} {T : u_T} {ks : List (Bool ⊕ Option Nat)} (av : List Value) (st : List Value) {P : Sg → Prop} (hc : CS N n) (hin : Cond.instanceMethod N.1 ∈ lG ∧ Cond.selects N.1.cls N.1 N.1 ∈ lG) (hlk : Cond.methodLink M.1.cls idx N.1 ∈ lG) (hd : decode M.2.1 pc = .ok (.invokevirtual idx, 3)) (hΓ : G0[i]? = some (.inr (ci, ks))) (hC : vwCl[ci]? = some (C, T, NN)) (hCN : N.1.cls = C) (hn : av.length = n) (hdd : d' + 1 ≤ d) (hr : (st.map fun v => v.category).sum ≤ 8) (hs : st0 = av.reverse ++ .ref i :: st) (hcall : Ct N d' false (0, 0) sx G0 (.ref i :: av) σ (qV P)) (K : ∀ σ' : Sg, P σ' → Ex M d false (0, 0) sx G0 (pc + 3) L st σ' Q) : Ex M d false (0, 0) sx G0 pc L st0 σ Q := by
  refine X_callV (bc := (0, 0)) (bu := (0, 0)) hc hin hlk hd hΓ hC hCN hn hdd hr hs hcall ?_
  rintro r Γ' σ' ⟨rfl, rfl, h⟩
  exact K σ' h
theorem X_reti {v : Int32} {P : Int32 → Sg → Prop} (hr : M.2.2.2 = some .int) (hd : decode M.2.1 pc = .ok (.ireturn, 1)) (h : P v σ) : Ex M d z bu sx G0 pc L [.int v] σ (qI P) := X_iret hr hd ⟨rfl, v, rfl, h⟩
theorem X_retz {v : Int32} {ty : FieldType} {P : Int32 → Sg → Prop} (hr : M.2.2.2 = some ty) (hn : narrow ty (.int v) = .int v) (hd : decode M.2.1 pc = .ok (.ireturn, 1)) (h : P v σ) : Ex M d z bu sx G0 pc L [.int v] σ (qI P) := X_zret hr hn hd ⟨rfl, v, rfl, h⟩
theorem X_retl {v : Int64} {P : Int64 → Sg → Prop} (hr : M.2.2.2 = some .long) (hd : decode M.2.1 pc = .ok (.lreturn, 1)) (h : P v σ) : Ex M d z bu sx G0 pc L [.long v] σ (qJ P) := X_lret hr hd ⟨rfl, v, rfl, h⟩
theorem X_retv {P : Sg → Prop} (hr : M.2.2.2 = none) (hd : decode M.2.1 pc = .ok (.return_, 1)) (h : P σ) : Ex M d z bu sx G0 pc L [] σ (qV P) := X_vret hr hd ⟨rfl, rfl, h⟩
end EX5
