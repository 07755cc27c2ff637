/-! calls -/
def CS (N : aM) (n : Nat) : Prop := Cond.code N.1 N.2.1 N.2.2.1 N.2.2.2 ∈ lG ∧ Cond.initialized N.1.cls ∈ lG ∧ (N.1.cls ≠ "java/lang/invoke/MethodHandle" ∧ N.1.cls ≠ "java/lang/invoke/VarHandle" ∧ (parseMethodDescriptor N.1.desc).map (fun d => d.parameters.length) = some n) ∧ N.2.2.1 ≤ 41
section EX4
variable {M : aM} {d : Nat} {z : Bool} {bu bc : Nat × Nat} {sx : Nat × (Nat → Int32)} {Γ : List aC} {pc : Nat} {L : List (Option Value)} {st st0 : List Value} {σ : Sg} {Q P : Option Value → List aC → Sg → Prop}
theorem cat_map (E : aE) (st : List Value) : ((st.map (cv E)).map fun v => v.category).sum = (st.map fun v => v.category).sum := by
  rw [List.map_map]; congr 1; apply List.map_congr_left; intro v _; exact cv_cat E v
theorem x_blind {av : List Value} {z : Bool} {E : aE} {sx : Nat × (Nat → Int32)} {Γ : List aC} {σ : Sg} : FrameBlind (va_Pc (av.map (cv E)) (fun U => En E sx U U.heap ∧ va_P E.2.2.1 vwCl (cW E Γ σ) U.heap ∧ (z = true → U.heap.size = E.1 + Γ.length))) :=
  fun a U g mk h => ⟨h.1, h.2.1.same (U := U.calling g mk a) rfl, h.2.2⟩
theorem x_pre {av : List Value} {z : Bool} {E : aE} {sx : Nat × (Nat → Int32)} {Γ : List aC} {σ : Sg} {s : State} {H : Heap} {locs : List Loc} (hE : En E sx s s.heap) (Hw : Hh z Γ σ s E H locs) : ∀ U : State, U.heap = H → s.WarmedH U.vm → va_Pc (av.map (cv E)) (fun U => En E sx U U.heap ∧ va_P E.2.2.1 vwCl (cW E Γ σ) U.heap ∧ (z = true → U.heap.size = E.1 + Γ.length)) (av.map (cv E)).toArray U :=
  fun U hU hW => ⟨rfl, hU ▸ hE.moved hW (fun a h1 h2 => Hw.2.2.2.1 a h1 h2), hU ▸ Hw.1, hU ▸ Hw.2.1⟩
/-- behind a call -/
theorem x_after {p : Program} {l : Launch} {e : Env} {R : Room} {s : State} {m : MethodId} {args : Array Value} {below : List Frame} {meth : Method} {c : Code} {E : aE} {H : Heap} {locs : List Loc} {cells slots : Nat} {ls : Array Slot} {a : Array Value} {g : JFrame} (hg : g = F0 m pc ls g.stack) (HC : Hc M d sx p R s m args meth c E) (Hw : Hh z Γ σ s E H locs) (hl : LH E ls M.2.2.1 L) (hb : cells + (bc.1 + bu.1) ≤ R.cells ∧ slots + (bc.2 + bu.2) ≤ R.slots)
    (hrun : va_Run p l e R s m args below meth c H locs cells slots bc.1 bc.2 g (st.map (cv E)) (aQ z E P a) (aA E)) (K : ∀ r Γ' σ', P r Γ' σ' → Ex M d z bu sx Γ' (pc + 3) L (r.toList ++ st) σ' Q) :
    W p l e R s m args below meth c H locs cells slots (MQ below (aQ z E Q) args s (cells + (bc.1 + bu.1)) (slots + (bc.2 + bu.2)) (aA E)) g := by
  intro T hT X
  obtain ⟨v, st₀, t, T', Lc, h0, X', hL, e1, e2, ⟨⟨r, Γ', σ', hv, hP', hW', hz'⟩, hF⟩, go⟩ := hrun T hT X
  have hv' : v = r.map (cv E) := by injection hv
  subst hv'
  obtain ⟨hF1, hF2⟩ := hF
  rw [h0] at hF1 hF2
  have hk := K r Γ' σ' hP' p l e R s m args below meth c E T'.heap (locs ++ Lc) (cells + bc.1) (slots + bc.2) ls HC
    ⟨by rw [e1]; exact hW', fun hz => by rw [e1]; exact hz' hz, Nat.le_trans Hw.2.2.1 (by rw [e1]; exact hF1), fun q h1 h2 => by rw [e1, hF2 q (Nat.lt_of_lt_of_le h1 Hw.2.2.1) h2]; exact Hw.2.2.2.1 q h1 h2, fun q hq => by
      rcases List.mem_append.mp hq with h | h
      · exact Hw.2.2.2.2 q h
      · exact hL q h⟩ hl (by rw [Nat.add_assoc, Nat.add_assoc]; exact hb) T' rfl X'
  obtain ⟨t2, a1, b1⟩ := hk
  rw [Nat.add_assoc, Nat.add_assoc] at b1
  refine ⟨t2, go t2 ?_, b1⟩
  rw [hg]
  have es : (r.map (cv E)).toList ++ st.map (cv E) = (r.toList ++ st).map (cv E) := by cases r <;> simp
  rw [es]
  exact a1
theorem X_callS {N : aM} {d' n idx : Nat} {av : List Value} (hc : CS N n) (hst : Cond.static N.1 ∈ lG) (hlk : Cond.methodLink M.1.cls idx N.1 ∈ lG) (hd : decode M.2.1 pc = .ok (.invokestatic idx, 3)) (hn : av.length = n) (hdd : d' + 1 ≤ d) (hr : (st.map fun v => v.category).sum ≤ 8) (hs : st0 = av.reverse ++ st) (hcall : Ct N d' z bc sx Γ av σ P) (K : ∀ r Γ' σ', P r Γ' σ' → Ex M d z bu sx Γ' (pc + 3) L (r.toList ++ st) σ' Q) : Ex M d z (bc.1 + bu.1, bc.2 + bu.2) sx Γ pc L st0 σ Q := by
  intro p l e R s m args below meth c E H locs cells slots ls HC Hw hl hb
  subst hs
  have hts := HC.2.2.2.2.2.1
  have hfr := HC.2.2.2.2.2.2.2.2.2.1
  have hlo := HC.2.2.2.2.2.2.2.2.2.2
  have hm := hc.2.2.2
  refine x_after (a := (av.map (cv E)).toArray) rfl HC Hw hl hb (va_runS (As := av.map (cv E)) ⟨HC.1, HC.2.1, HC.2.2.2.1, HC.2.2.2.2.1, hts⟩ (hcall l E) ⟨callB_of n hts (goodIn_G hc.1) rfl rfl rfl (hts _ hc.2.1) (hts _ hlk) hc.2.2.1 ⟨by dsimp only; omega, by dsimp only; omega⟩, hts _ hst⟩ ⟨x_blind, x_pre HC.2.2.2.2.2.2.2.2.1 Hw⟩ rfl (by rw [List.length_map]; exact hn) hl.1 (by simp) (lv_room (by rw [cat_map]; exact hr)) hd ⟨by omega, by omega⟩) K
theorem X_callSN {N : aM} {d' n idx : Nat} {av : List Value} (hc : CS N n) (hst : Cond.static N.1 ∈ lG) (hlk : (M.1.cls, idx, N.1) ∈ nestL) (hd : decode M.2.1 pc = .ok (.invokestatic idx, 3)) (hn : av.length = n) (hdd : d' + 1 ≤ d) (hr : (st.map fun v => v.category).sum ≤ 8) (hs : st0 = av.reverse ++ st) (hcall : Ct N d' z bc sx Γ av σ P) (K : ∀ r Γ' σ', P r Γ' σ' → Ex M d z bu sx Γ' (pc + 3) L (r.toList ++ st) σ' Q) : Ex M d z (bc.1 + bu.1, bc.2 + bu.2) sx Γ pc L st0 σ Q := by
  intro p l e R s m args below meth c E H locs cells slots ls HC Hw hl hb
  subst hs
  have hts := HC.2.2.2.2.2.1
  have hfr := HC.2.2.2.2.2.2.2.2.2.1
  have hlo := HC.2.2.2.2.2.2.2.2.2.2
  have hm := hc.2.2.2
  refine x_after (a := (av.map (cv E)).toArray) rfl HC Hw hl hb (va_runSN (As := av.map (cv E)) ⟨HC.1, HC.2.1, HC.2.2.2.1, HC.2.2.2.2.1, hts⟩ (hcall l E) ⟨va_cnB (host := "CoachmenFace") n hts (goodIn_G hc.1) rfl rfl rfl (HC.2.2.2.2.2.2.2.2.1.2.1 _ hlk) (hts _ hc.2.1) hc.2.2.1 ⟨by dsimp only; omega, by dsimp only; omega⟩, hts _ hst, trivial⟩ ⟨x_blind, x_pre HC.2.2.2.2.2.2.2.2.1 Hw⟩ rfl (by rw [List.length_map]; exact hn) hl.1 (by simp) (lv_room (by rw [cat_map]; exact hr)) hd ⟨by omega, by omega⟩) K
theorem X_callV {N : aM} {d' n idx i ci : Nat} {C : String} {T : u_T} {NN : Nat} {ks : List (Bool ⊕ Option Nat)} {av : List Value} (hc : CS N n) (hin : Cond.instanceMethod N.1 ∈ lG ∧ Cond.selects N.1.cls N.1 N.1 ∈ lG) (hlk : Cond.methodLink M.1.cls idx N.1 ∈ lG) (hd : decode M.2.1 pc = .ok (.invokevirtual idx, 3)) (hΓ : Γ[i]? = some (.inr (ci, ks))) (hC : vwCl[ci]? = some (C, T, NN)) (hCN : N.1.cls = C) (hn : av.length = n) (hdd : d' + 1 ≤ d) (hr : (st.map fun v => v.category).sum ≤ 8) (hs : st0 = av.reverse ++ .ref i :: st) (hcall : Ct N d' z bc sx Γ (.ref i :: av) σ P) (K : ∀ r Γ' σ', P r Γ' σ' → Ex M d z bu sx Γ' (pc + 3) L (r.toList ++ st) σ' Q) : Ex M d z (bc.1 + bu.1, bc.2 + bu.2) sx Γ pc L st0 σ Q := by
  intro p l e R s m args below meth c E H locs cells slots ls HC Hw hl hb
  subst hs; subst hCN
  have hts := HC.2.2.2.2.2.1
  have hfr := HC.2.2.2.2.2.2.2.2.2.1
  have hlo := HC.2.2.2.2.2.2.2.2.2.2
  have hm := hc.2.2.2
  have hE := HC.2.2.2.2.2.2.2.2.1
  have hcw := callB_of (R := R) (rm := { frames := d', cells := bc.1, slots := bc.2, locals := 60 * d' }) (own := M.1.cls) (index := idx) (y := N.1) (bytes := N.2.1) (maxL := N.2.2.1) (ret := N.2.2.2) (ws := .code N.1 N.2.1 N.2.2.1 N.2.2.2 :: lG) (ws' := lG) (mc := bc.1) (ms := bc.2) n hts (goodIn_G hc.1) rfl rfl rfl (hts _ hc.2.1) (hts _ hlk) hc.2.2.1 ⟨by dsimp only; omega, by dsimp only; omega⟩
  exact x_after (a := ((Value.ref i :: av).map (cv E)).toArray) rfl HC Hw hl hb (va_runV (b := E.1 + i) (C := N.1.cls) (As := av.map (cv E)) ⟨HC.1, HC.2.1, HC.2.2.2.1, HC.2.2.2.2.1, hts⟩ (hcall l E) ⟨hcw, hts _ hin.1, hts _ hin.2⟩ ⟨x_blind, va_recv hE.1 Hw.1 hC (cW_at hΓ), x_pre (av := .ref i :: av) hE Hw⟩ rfl (by rw [List.length_map]; exact hn) hl.1 (by simp [cv]) (lv_room (by rw [cat_map]; exact hr)) hd ⟨by omega, by omega⟩) K
theorem X_callI {N : aM} {d' n idx i : Nat} {av : List Value} (hc : CS N n) (hret : N.2.2.2 = none) (hnm : N.1.name = "<init>") (hin : Cond.instanceMethod N.1 ∈ lG) (hlk : Cond.methodLink M.1.cls idx N.1 ∈ lG) (hd : decode M.2.1 pc = .ok (.invokespecial idx, 3)) (hn : av.length = n) (hdd : d' + 1 ≤ d) (hr : (st.map fun v => v.category).sum ≤ 8) (hs : st0 = av.reverse ++ .ref i :: st) (hcall : Ct N d' z bc sx Γ (.ref i :: av) σ P) (K : ∀ r Γ' σ', P r Γ' σ' → Ex M d z bu sx Γ' (pc + 3) L (r.toList ++ st) σ' Q) : Ex M d z (bc.1 + bu.1, bc.2 + bu.2) sx Γ pc L st0 σ Q := by
  intro p l e R s m args below meth c E H locs cells slots ls HC Hw hl hb
  subst hs
  have hts := HC.2.2.2.2.2.1
  have hfr := HC.2.2.2.2.2.2.2.2.2.1
  have hlo := HC.2.2.2.2.2.2.2.2.2.2
  have hm := hc.2.2.2
  have hE := HC.2.2.2.2.2.2.2.2.1
  have hcw := callB_of (R := R) (rm := { frames := d', cells := bc.1, slots := bc.2, locals := 60 * d' }) (own := M.1.cls) (index := idx) (y := N.1) (bytes := N.2.1) (maxL := N.2.2.1) (ret := N.2.2.2) (ws := .code N.1 N.2.1 N.2.2.1 N.2.2.2 :: lG) (ws' := lG) (mc := bc.1) (ms := bc.2) n hts (goodIn_G hc.1) rfl rfl rfl (hts _ hc.2.1) (hts _ hlk) hc.2.2.1 ⟨by dsimp only; omega, by dsimp only; omega⟩
  rw [show (Cond.code N.1 N.2.1 N.2.2.1 N.2.2.2 :: lG) = (Cond.code N.1 N.2.1 N.2.2.1 none :: lG) by rw [hret], hret] at hcw
  have hcl := hcall l E
  rw [hret] at hcl
  exact x_after (a := ((Value.ref i :: av).map (cv E)).toArray) rfl HC Hw hl hb (va_runI (b := E.1 + i) (As := av.map (cv E)) ⟨HC.1, HC.2.1, HC.2.2.2.1, HC.2.2.2.2.1, hts⟩ hcl ⟨hcw, hnm, hts _ hin⟩ ⟨x_blind, x_pre (av := .ref i :: av) hE Hw⟩ rfl (by rw [List.length_map]; exact hn) hl.1 (by simp [cv]) (lv_room (by rw [cat_map]; exact hr)) hd ⟨by omega, by omega⟩) K
theorem X_callIN {N : aM} {d' n idx i : Nat} {av : List Value} (hc : CS N n) (hret : N.2.2.2 = none) (hnm : N.1.name = "<init>") (hin : Cond.instanceMethod N.1 ∈ lG) (hlk : (M.1.cls, idx, N.1) ∈ nestL) (hd : decode M.2.1 pc = .ok (.invokespecial idx, 3)) (hn : av.length = n) (hdd : d' + 1 ≤ d) (hr : (st.map fun v => v.category).sum ≤ 8) (hs : st0 = av.reverse ++ .ref i :: st) (hcall : Ct N d' z bc sx Γ (.ref i :: av) σ P) (K : ∀ r Γ' σ', P r Γ' σ' → Ex M d z bu sx Γ' (pc + 3) L (r.toList ++ st) σ' Q) : Ex M d z (bc.1 + bu.1, bc.2 + bu.2) sx Γ pc L st0 σ Q := by
  intro p l e R s m args below meth c E H locs cells slots ls HC Hw hl hb
  subst hs
  have hts := HC.2.2.2.2.2.1
  have hfr := HC.2.2.2.2.2.2.2.2.2.1
  have hlo := HC.2.2.2.2.2.2.2.2.2.2
  have hm := hc.2.2.2
  have hE := HC.2.2.2.2.2.2.2.2.1
  have hcw := va_cnB (R := R) (host := "CoachmenFace") (rm := { frames := d', cells := bc.1, slots := bc.2, locals := 60 * d' }) (own := M.1.cls) (index := idx) (y := N.1) (bytes := N.2.1) (maxL := N.2.2.1) (ret := N.2.2.2) (ws := .code N.1 N.2.1 N.2.2.1 N.2.2.2 :: lG) (ws' := lG) (mc := bc.1) (ms := bc.2) n hts (goodIn_G hc.1) rfl rfl rfl (hE.2.1 _ hlk) (hts _ hc.2.1) hc.2.2.1 ⟨by dsimp only; omega, by dsimp only; omega⟩
  rw [show (Cond.code N.1 N.2.1 N.2.2.1 N.2.2.2 :: lG) = (Cond.code N.1 N.2.1 N.2.2.1 none :: lG) by rw [hret], hret] at hcw
  have hcl := hcall l E
  rw [hret] at hcl
  exact x_after (a := ((Value.ref i :: av).map (cv E)).toArray) rfl HC Hw hl hb (va_runIN (b := E.1 + i) (As := av.map (cv E)) ⟨HC.1, HC.2.1, HC.2.2.2.1, HC.2.2.2.2.1, hts⟩ hcl ⟨hcw, hnm, hts _ hin⟩ ⟨x_blind, x_pre (av := .ref i :: av) hE Hw⟩ rfl (by rw [List.length_map]; exact hn) hl.1 (by simp [cv]) (lv_room (by rw [cat_map]; exact hr)) hd ⟨by omega, by omega⟩) K
end EX4
