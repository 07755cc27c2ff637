/-! calls of methods that make nothing, from where the heap's size is known -/
theorem Ct.z {M : aM} {d : Nat} {sx : Nat × (Nat → Int32)} {av : List Value} {σ : Sg} {Q : Option Value → List aC → Sg → Prop} (hQ : ∀ r Γ σ, Q r Γ σ → Γ = G0) (h : Ct M d false (0, 0) sx G0 av σ Q) : Ct M d true (0, 0) sx G0 av σ Q := by
  intro l E
  have h1 := h l E
  unfold Met MetFree at h1 ⊢
  intro p e ha hc hk s m args below hf hsp hP hK
  obtain ⟨k, o, a1, a2, a3, ⟨⟨r, Γ', σ', e1, e2, e3, e4⟩, hF⟩, L, hE, hL⟩ := h1 p e ha hc hk s m args below hf hsp ⟨hP.1, hP.2.1, hP.2.2.1, fun q => nomatch q⟩ hK
  refine ⟨k, o, a1, a2, a3, ⟨⟨r, Γ', σ', e1, e2, e3, fun _ => ?_⟩, hF⟩, L, hE, hL⟩
  rw [hQ r Γ' σ' e2]
  have hs := hP.2.2.2 rfl
  obtain ⟨-, -, -, b1, b2, -⟩ := hE
  have e5 : (stepsAlone p.tables e k s).heap.size = s.heap.size := Nat.le_antisymm b2 b1
  rw [e5, hs]
section EX7
variable {M : aM} {d : Nat} {sx : Nat × (Nat → Int32)} {pc : Nat} {L : List (Option Value)} {st0 : List Value} {σ : Sg} {Q : Option Value → List aC → Sg → Prop}
theorem X_callVit {N : aM} {d' n idx i ci NN : Nat} {C : String} {T : u_T} {ks : List (Bool ⊕ Option Nat)} (av : List Value) (st : List Value) {P : Int32 → Sg → Prop} (hc : CS N n) (hin : Cond.instanceMethod N.1 ∈ lG ∧ Cond.selects N.1.cls N.1 N.1 ∈ lG) (hlk : Cond.methodLink M.1.cls idx N.1 ∈ lG) (hd : decode M.2.1 pc = .ok (.invokevirtual idx, 3)) (hΓ : G0[i]? = some (.inr (ci, ks))) (hC : vwCl[ci]? = some (C, T, NN)) (hCN : N.1.cls = C) (hn : av.length = n) (hdd : d' + 1 ≤ d) (hr : (st.map fun v => v.category).sum ≤ 8) (hs : st0 = av.reverse ++ .ref i :: st) (hcall : Ct N d' false (0, 0) sx G0 (.ref i :: av) σ (qI P)) (K : ∀ (v : Int32) (σ' : Sg), P v σ' → Ex M d true (0, 0) sx G0 (pc + 3) L (.int v :: st) σ' Q) : Ex M d true (0, 0) sx G0 pc L st0 σ Q := by
  refine X_callV (bc := (0, 0)) (bu := (0, 0)) hc hin hlk hd hΓ hC hCN hn hdd hr hs (hcall.z (fun r Γ σ h => h.1)) ?_
  rintro r Γ' σ' ⟨rfl, v, rfl, h⟩
  exact K v σ' h
theorem X_callVlt {N : aM} {d' n idx i ci NN : Nat} {C : String} {T : u_T} {ks : List (Bool ⊕ Option Nat)} (av : List Value) (st : List Value) {P : Int64 → Sg → Prop} (hc : CS N n) (hin : Cond.instanceMethod N.1 ∈ lG ∧ Cond.selects N.1.cls N.1 N.1 ∈ lG) (hlk : Cond.methodLink M.1.cls idx N.1 ∈ lG) (hd : decode M.2.1 pc = .ok (.invokevirtual idx, 3)) (hΓ : G0[i]? = some (.inr (ci, ks))) (hC : vwCl[ci]? = some (C, T, NN)) (hCN : N.1.cls = C) (hn : av.length = n) (hdd : d' + 1 ≤ d) (hr : (st.map fun v => v.category).sum ≤ 8) (hs : st0 = av.reverse ++ .ref i :: st) (hcall : Ct N d' false (0, 0) sx G0 (.ref i :: av) σ (qJ P)) (K : ∀ (v : Int64) (σ' : Sg), P v σ' → Ex M d true (0, 0) sx G0 (pc + 3) L (.long v :: st) σ' Q) : Ex M d true (0, 0) sx G0 pc L st0 σ Q := by
  refine X_callV (bc := (0, 0)) (bu := (0, 0)) hc hin hlk hd hΓ hC hCN hn hdd hr hs (hcall.z (fun r Γ σ h => h.1)) ?_
  rintro r Γ' σ' ⟨rfl, v, rfl, h⟩
  exact K v σ' h
end EX7
