/-! rows that make cells; a call that makes none keeps the heap's size -/
theorem cM_app (E : aE) (σ : Sg) : ∀ (Γ : List aC) (i : Nat) (c : aC), cM E σ i (Γ ++ [c]) = cM E σ i Γ ++ [(E.1 + (i + Γ.length), cE E σ (i + Γ.length) c)]
  | [], i, c => by simp [cM]
  | c0 :: cs, i, c => by
    show (E.1 + i, cE E σ i c0) :: cM E σ (i + 1) (cs ++ [c]) = (E.1 + i, cE E σ i c0) :: (cM E σ (i + 1) cs ++ _)
    rw [cM_app E σ cs (i + 1) c, show i + 1 + cs.length = i + (c0 :: cs).length by simp; omega]
theorem cW_app {E : aE} {σ : Sg} {Γ : List aC} {c : aC} : cW E (Γ ++ [c]) σ = cW E Γ σ ++ [(E.1 + Γ.length, cE E σ Γ.length c)] := by
  have h := cM_app E σ Γ 0 c
  rw [Nat.zero_add] at h
  exact h
section XNEW
variable {p : Program} {l : Launch} {e : Env} {R : Room} {s : State} {m : MethodId} {args : Array Value} {below : List Frame} {meth : Method} {c : Code} {H : Heap} {locs : List Loc} {cells slots : Nat} {Q : State → Prop}
variable {cc : ByteArray} {pc : Nat} {ls : Array Slot} {rest : List Value} {D : va_G} {A : Nat → Prop} {a : Nat} {tys : List (ClassId × FieldType)} {ws : va_W} {H0 : Heap}
theorem x_pushP {H1 : Heap} {q : Nat × va_E} (hP : va_P D vwCl ws H) (o1 : ∀ x : Nat, x < H.size → H1[x]? = H[x]?) (hq : va_at D vwCl q H1) : va_P D vwCl (ws ++ [q]) H1 := by
  refine (hP.kept (fun k x hx => o1 x.1 ((hP k x hx).lt))).app (fun k x hx => ?_)
  have hz : k < 1 := (List.getElem?_eq_some_iff.mp hx).1
  rw [show k = 0 by omega] at hx
  cases hx
  exact hq
theorem x_pushS {H1 : Heap} (hS : va_S A H0 H locs) (z1 : H1.size = H.size + 1) (o1 : ∀ x : Nat, x < H.size → H1[x]? = H[x]?) : va_S A H0 H1 locs :=
  ⟨Nat.le_trans hS.1 (by omega), fun x h1 h2 => (o1 x (Nat.lt_of_lt_of_le h1 hS.1)).trans (hS.2.1 x h1 h2), hS.2.2⟩
theorem x_new (hexec : p.tables.exec = Jvm.exec) (hb : c.code = cc) {own C : String} {T : u_T} {N ci index : Nat} {ty : Nat → FieldType} (hts : ∀ w ∈ lG, w.before args s = true) (ck : CK ci C T N ty) (hown : s.vm.findClass own = some m.cls) (hcl : (Cond.classLink own index C).before args s = true) (hinst : (Cond.instantiable C N).before args s = true) (hini : (Cond.initialized C).before args s = true)
    (hK : va_K D vwCl tys s) (hP : va_P D vwCl ws H) (hS : va_S A H0 H locs) {fs : List Value} (hfs : ∀ j, j < N → defaultValue (ty j) = vp_V fs j) (hcells : cells + 1 ≤ R.cells) (hslots : slots + N ≤ R.slots) (hdg : decode cc pc = .ok (.new index, 3))
    (kk : ∀ H1 : Heap, va_P D vwCl (ws ++ [(H.size, .inr (ci, fs))]) H1 → H1.size = H.size + 1 → va_S A H0 H1 locs → W p l e R s m args below meth c H1 locs (cells + 1) (slots + N) Q (F0 m (pc + 3) ls (.ref H.size :: rest))) : W p l e R s m args below meth c H locs cells slots Q (F0 m pc ls rest) := by
  obtain ⟨hc, hin, hty, hnm⟩ := ck
  have hKn := hK.1 ci _ hc
  refine W.newcK hexec hb hown hcl hinst hini rfl hdg hcells hslots hKn.2.1 rfl fun H1 kC hkC e1 z1 o1 => ?_
  exact kk H1 (x_pushP hP o1 ⟨_, hc, (u_born ty hts hin hKn hkC e1 hty).to hfs⟩) z1 (x_pushS hS z1 o1)
theorem x_newa (hexec : p.tables.exec = Jvm.exec) (hb : c.code = cc) {atype : ArrayType} (harr : (Cond.arrayClass (newarray.typeOf atype)).before args s = true) {cA0 : ClassId} (hRA : s.vm.findClass ("[" ++ (newarray.typeOf atype).toString) = some cA0) (hP : va_P D vwCl ws H) (hS : va_S A H0 H locs)
    {n : Int32} {N' : Nat} {a0 : vp_A} (ha : ∀ cA : ClassId, vp_cell cA a0 = arrV cA N' (fun _ => defaultValue (newarray.typeOf atype))) (hn : ¬ n < 0) (hN : n.toNatClampNeg = N') (hbytes : N' * componentBytes (newarray.typeOf atype) ≤ 536870912) (hcells : cells + 1 ≤ R.cells) (hslots : slots + N' ≤ R.slots) (hdg : decode cc pc = .ok (.newarray atype, 2))
    (kk : ∀ H1 : Heap, va_P D vwCl (ws ++ [(H.size, .inl (cA0, a0))]) H1 → H1.size = H.size + 1 → va_S A H0 H1 locs → W p l e R s m args below meth c H1 locs (cells + 1) (slots + N') Q (F0 m (pc + 2) ls (.ref H.size :: rest))) : W p l e R s m args below meth c H locs cells slots Q (F0 m pc ls (.int n :: rest)) := by
  refine va_newaK hexec hb harr rfl hdg rfl hn hN hbytes hcells hslots rfl fun H1 cA e1 z1 o1 hAr hNm => ?_
  have hcA : cA = cA0 := Option.some.inj (hNm.symm.trans hRA)
  subst hcA
  exact kk H1 (x_pushP hP o1 (by show H1[H.size]? = some (vp_cell _ _); rw [ha]; exact e1)) z1 (x_pushS hS z1 o1)
theorem x_anew (hexec : p.tables.exec = Jvm.exec) (hb : c.code = cc) {own C : String} {index : Nat} (hown : s.vm.findClass own = some m.cls) (hclink : (Cond.classLink own index C).before args s = true) (hover : va_AO C s) {cA0 : ClassId} (hRA : va_RA s cA0 (.object C)) (hP : va_P D vwCl ws H) (hS : va_S A H0 H locs)
    {n : Int32} {N' : Nat} (hn : ¬ n < 0) (hN : n.toNatClampNeg = N') (hbytes : N' * 4 ≤ 536870912) (hcells : cells + 1 ≤ R.cells) (hslots : slots + N' ≤ R.slots) (hdg : decode cc pc = .ok (.anewarray index, 3))
    (kk : ∀ H1 : Heap, va_P D vwCl (ws ++ [(H.size, .inl (cA0, N', .inr (.inr (.inr (.inr (fun _ => none))))))]) H1 → H1.size = H.size + 1 → va_S A H0 H1 locs → W p l e R s m args below meth c H1 locs (cells + 1) (slots + N') Q (F0 m (pc + 3) ls (.ref H.size :: rest))) : W p l e R s m args below meth c H locs cells slots Q (F0 m pc ls (.int n :: rest)) := by
  subst hN
  refine W.anew hexec hb hown hclink (va_AO.use hover) rfl hdg rfl hn hbytes hcells hslots fun cA kA comp f1 f2 f3 f4 => ?_
  obtain ⟨_, _, -, -, -, hf⟩ := hRA
  have hcA : cA = cA0 := Option.some.inj (f1.symm.trans hf)
  subst hcA
  generalize hH1 : H.push ({ cls := cA, slots := Array.replicate n.toNatClampNeg .null, vm := .none } : Cell) = H1
  have z1 : H1.size = H.size + 1 := by rw [← hH1, Array.size_push]
  have e1 : H1[H.size]? = some (arrV cA n.toNatClampNeg (fun _ => .null)) := by rw [← hH1, Array.getElem?_push_size, ← arrV_new]
  have o1 : ∀ q : Nat, q < H.size → H1[q]? = H[q]? := fun q hq => by rw [← hH1, Array.getElem?_push, if_neg (Nat.ne_of_lt hq)]
  exact kk H1 (x_pushP hP o1 (by show H1[H.size]? = some (vp_cell _ _); rw [e1]; rfl)) z1 (x_pushS hS z1 o1)
theorem x_astq (hexec : p.tables.exec = Jvm.exec) (hb : c.code = cc) (hK : va_K D vwCl tys s) (hP : va_P D vwCl ws H) (hD : va_D A ws) (hS : va_S A H0 H locs) (q0 t0 qk ci : Nat) {cA : ClassId} {r : vw_C} {n v : Nat} {vs : List Value} {f : Nat → Option Nat} (ha : ws[q0]? = some (a, .inl (cA, n, .inr (.inr (.inr (.inr f)))))) (ht : tys[t0]? = some (cA, .object r.1)) (hv : ws[qk]? = some (v, .inr (ci, vs))) (hc : vwCl[ci]? = some r) {i : Int32} (hin : vp_in i n) (hdg : decode cc pc = .ok (.aastore, 1))
    (kk : ∀ (H1 : Heap) (locs1 : List Loc), va_P D vwCl (ws.set q0 (a, .inl (cA, n, .inr (.inr (.inr (.inr (va_up f i.toNatClampNeg (some v)))))))) H1 → H1.size = H.size → va_S A H0 H1 locs1 → W p l e R s m args below meth c H1 locs1 cells slots Q (F0 m (pc + 1) ls rest)) : W p l e R s m args below meth c H locs cells slots Q (F0 m pc ls (.ref v :: .int i :: .ref a :: rest)) := by
  have hlt : i.toNatClampNeg < n := Nat.not_le.mp fun q => hin (Or.inr q)
  have h0 : ¬ i < 0 := fun q => hin (Or.inl q)
  obtain ⟨r', hr', cellV, g1, g2, g3, -⟩ := hP qk _ hv
  have hcls := (hK.1 ci r hc).2
  obtain ⟨kA, comp, k1, k2, k3, -⟩ := (hK.2 t0 _ ht).2
  have hcomp : comp = D.1 ci := Option.some.inj (k3.symm.trans hcls.1)
  subst hcomp
  obtain ⟨kC, hkC, -⟩ := hcls.2
  refine W.aast hexec hb (hP q0 _ ha) (fun q h => by cases h) (fun h => by cases h) k1 k2 rfl hkC ⟨h0, by show _ < (arrV _ _ _).slots.size; rw [arrV_size]; exact hlt⟩ g1 (fun q h => by rw [g3] at h; cases h) (by rw [g2]; exact hkC) (by rw [g2]; exact va_assign hcls) rfl rfl hdg fun H1 e z oq => ?_
  refine kk H1 _ (hP.set hD ha ?_ oq) z (hS.put z oq (hD.2 q0 _ ha))
  show H1[a]? = some (vp_cell _ _)
  rw [e]
  rw [vp_cell_q, vp_cell_q, arrV_store]
  congr 2
  funext q
  by_cases hq : q = i.toNatClampNeg
  · subst hq
    simp [updV, va_up, va_rf]
  · simp [updV, va_up, hq]
end XNEW
section EX6
variable {M : aM} {d : Nat} {bu : Nat × Nat} {sx : Nat × (Nat → Int32)} {Γ Γ' : List aC} {pc : Nat} {L : List (Option Value)} {st : List Value} {σ : Sg} {Q : Option Value → List aC → Sg → Prop}
theorem X_new {ci N idx k : Nat} {C : String} {T : u_T} {ty : Nat → FieldType} {ks : List (Bool ⊕ Option Nat)} (ck : CK ci C T N ty) (hw : Cond.classLink M.1.cls idx C ∈ lG ∧ Cond.instantiable C N ∈ lG ∧ Cond.initialized C ∈ lG) (hk : Γ.length = k) (hg : Γ ++ [.inr (ci, ks)] = Γ') (hfs : ∀ (E : aE) (j : Nat), j < N → defaultValue (ty j) = vp_V (cL E σ k 0 ks) j) (hd : decode M.2.1 pc = .ok (.new idx, 3)) (K : Ex M d true bu sx Γ' (pc + 3) L (.ref k :: st) σ Q) : Ex M d true (1 + bu.1, N + bu.2) sx Γ pc L st σ Q := by
  intro p l e R s m args below meth c E H locs cells slots ls HC Hw hl hb
  have hts := HC.2.2.2.2.2.1
  have hsz := Hw.2.1 rfl
  rw [hk] at hsz
  dsimp only at hb
  refine x_new (fs := cL E σ k 0 ks) HC.1 HC.2.1 hts ck HC.2.2.2.2.1 (hts _ hw.1) (hts _ hw.2.1) (hts _ hw.2.2) HC.2.2.2.2.2.2.2.2.1.1 Hw.1 Hw.2.2 (hfs E) (by omega) (by omega) hd (fun H1 hP z1 hS => ?_)
  subst hg
  have hP' : va_P E.2.2.1 vwCl (cW E (Γ ++ [.inr (ci, ks)]) σ) H1 := by
    rw [cW_app, hk]
    rw [hsz] at hP
    exact hP
  have hK := K p l e R s m args below meth c E H1 locs (cells + 1) (slots + N) ls HC ⟨hP', fun _ => by rw [z1, hsz, List.length_append, hk]; simp; omega, hS⟩ hl (by omega)
  rw [hsz]
  rw [show cells + 1 + bu.1 = cells + (1 + bu.1) by omega, show slots + N + bu.2 = slots + (N + bu.2) by omega] at hK
  exact hK
theorem X_newa {k N' t0 : Nat} {atype : ArrayType} {n : Int32} (hw : Cond.arrayClass (newarray.typeOf atype) ∈ lG) (ht : ∀ E : aE, (tyL E)[t0]? = some (E.2.2.2 (newarray.typeOf atype), newarray.typeOf atype)) (hno : ∀ C, newarray.typeOf atype ≠ .object C) (hk : Γ.length = k) (hg : Γ ++ [.inl (newarray.typeOf atype, N', [])] = Γ') (hz : ∀ (E : aE) (cA0 : ClassId), vp_cell cA0 (cA E σ k (newarray.typeOf atype) N' []) = arrV cA0 N' (fun _ => defaultValue (newarray.typeOf atype))) (hn : ¬ n < 0) (hN : n.toNatClampNeg = N') (hbytes : N' * componentBytes (newarray.typeOf atype) ≤ 536870912) (hd : decode M.2.1 pc = .ok (.newarray atype, 2)) (K : Ex M d true bu sx Γ' (pc + 2) L (.ref k :: st) σ Q) : Ex M d true (1 + bu.1, N' + bu.2) sx Γ pc L (.int n :: st) σ Q := by
  intro p l e R s m args below meth c E H locs cells slots ls HC Hw hl hb
  have hts := HC.2.2.2.2.2.1
  have hsz := Hw.2.1 rfl
  rw [hk] at hsz
  dsimp only at hb
  have hRA : s.vm.findClass ("[" ++ (newarray.typeOf atype).toString) = some (E.2.2.2 (newarray.typeOf atype)) := by
    have h := (HC.2.2.2.2.2.2.2.2.1.1.2 t0 _ (ht E)).2
    revert h
    cases hty : newarray.typeOf atype with
    | object C => exact absurd hty (hno C)
    | _ => intro h; exact h
  refine x_newa (a0 := cA E σ k (newarray.typeOf atype) N' []) HC.1 HC.2.1 (hts _ hw) hRA Hw.1 Hw.2.2 (hz E) hn hN hbytes (by omega) (by omega) hd (fun H1 hP z1 hS => ?_)
  subst hg
  have hP' : va_P E.2.2.1 vwCl (cW E (Γ ++ [.inl (newarray.typeOf atype, N', [])]) σ) H1 := by
    rw [cW_app, hk]
    rw [hsz] at hP
    exact hP
  have hK := K p l e R s m args below meth c E H1 locs (cells + 1) (slots + N') ls HC ⟨hP', fun _ => by rw [z1, hsz, List.length_append, hk]; simp; omega, hS⟩ hl (by omega)
  rw [hsz]
  rw [show cells + 1 + bu.1 = cells + (1 + bu.1) by omega, show slots + N' + bu.2 = slots + (N' + bu.2) by omega] at hK
  exact hK
theorem X_anew {k N' idx t0 : Nat} {C : String} {n : Int32} (hw : Cond.classLink M.1.cls idx C ∈ lG) (hC : C = "CoachmenFace$Coach" ∧ t0 = 4 ∨ C = "CoachmenFace$Shelf" ∧ t0 = 5) (hk : Γ.length = k) (hg : Γ ++ [.inl (.object C, N', [])] = Γ') (hn : ¬ n < 0) (hN : n.toNatClampNeg = N') (hbytes : N' * 4 ≤ 536870912) (hd : decode M.2.1 pc = .ok (.anewarray idx, 3)) (K : Ex M d true bu sx Γ' (pc + 3) L (.ref k :: st) σ Q) : Ex M d true (1 + bu.1, N' + bu.2) sx Γ pc L (.int n :: st) σ Q := by
  intro p l e R s m args below meth c E H locs cells slots ls HC Hw hl hb
  have hts := HC.2.2.2.2.2.1
  have hE := HC.2.2.2.2.2.2.2.2.1
  have hsz := Hw.2.1 rfl
  rw [hk] at hsz
  dsimp only at hb
  have hRA : va_RA s (E.2.2.2 (.object C)) (.object C) := by
    rcases hC with ⟨rfl, rfl⟩ | ⟨rfl, rfl⟩
    · exact (hE.1.2 4 _ rfl).2
    · exact (hE.1.2 5 _ rfl).2
  have hAO : va_AO C s := by
    rcases hC with ⟨rfl, -⟩ | ⟨rfl, -⟩
    · exact hE.2.2.1.1
    · exact hE.2.2.1.2
  refine x_anew HC.1 HC.2.1 HC.2.2.2.2.1 (hts _ hw) hAO hRA Hw.1 Hw.2.2 hn hN hbytes (by omega) (by omega) hd (fun H1 hP z1 hS => ?_)
  subst hg
  have hP' : va_P E.2.2.1 vwCl (cW E (Γ ++ [.inl (.object C, N', [])]) σ) H1 := by
    rw [cW_app, hk]
    rw [hsz] at hP
    exact hP
  have hK := K p l e R s m args below meth c E H1 locs (cells + 1) (slots + N') ls HC ⟨hP', fun _ => by rw [z1, hsz, List.length_append, hk]; simp; omega, hS⟩ hl (by omega)
  rw [hsz]
  rw [show cells + 1 + bu.1 = cells + (1 + bu.1) by omega, show slots + N' + bu.2 = slots + (N' + bu.2) by omega] at hK
  exact hK
theorem X_aast {i n q ci : Nat} {C : String} {T : u_T} {N : Nat} {rs rs' : List (Option Nat)} {ks : List (Bool ⊕ Option Nat)} {j : Int32} (hΓ : Γ[i]? = some (.inl (.object C, n, rs))) (hC : C = "CoachmenFace$Coach" ∨ C = "CoachmenFace$Shelf") (hq : Γ[q]? = some (.inr (ci, ks))) (hci : vwCl[ci]? = some (C, T, N)) (hin : vp_in j n) (hrs : ∀ x : Nat, rs'.getD x none = if x = j.toNatClampNeg then some q else rs.getD x none) (hg : Γ.set i (.inl (.object C, n, rs')) = Γ') (hd : decode M.2.1 pc = .ok (.aastore, 1)) (K : Ex M d true bu sx Γ' (pc + 1) L st σ Q) : Ex M d true bu sx Γ pc L (.ref q :: .int j :: .ref i :: st) σ Q := by
  intro p l e R s m args below meth c E H locs cells slots ls HC Hw hl hb
  have hE := HC.2.2.2.2.2.2.2.2.1
  have key : ∀ t0 : Nat, (tyL E)[t0]? = some (E.2.2.2 (.object C), .object C) → W p l e R s m args below meth c H locs cells slots (MQ below (aQ true E Q) args s (cells + bu.1) (slots + bu.2) (aA E)) (F0 m pc ls ((.ref q :: .int j :: .ref i :: st).map (cv E))) := by
    intro t0 ht
    refine x_astq (f := fun j => (rs.getD j none).map (fun q => E.1 + q)) HC.1 HC.2.1 hE.1 Hw.1 cW_D Hw.2.2 i t0 q ci (r := (C, T, N)) (cW_at hΓ) ht (cW_at hq) hci hin hd (fun H1 locs1 hP z1 hS => ?_)
    rw [cW_shape (c' := .inl (.object C, n, rs')) hΓ (by
      simp only [cE, cA]
      congr 7
      funext x
      rw [hrs x]
      unfold va_up
      split <;> rfl)] at hP
    subst hg
    exact K p l e R s m args below meth c E H1 locs1 cells slots ls HC ⟨hP, fun h => by rw [z1, Hw.2.1 h, List.length_set], hS⟩ hl hb
  rcases hC with rfl | rfl
  · exact key 4 rfl
  · exact key 5 rfl
theorem X_obj {idx : Nat} {i : Nat} (hw : Cond.methodLink M.1.cls idx objectInit ∈ lG) (hd : decode M.2.1 pc = .ok (.invokespecial idx, 3)) (hdd : 1 ≤ d) (hr : (st.map fun v => v.category).sum ≤ 8) (K : Ex M d true bu sx Γ (pc + 3) L st σ Q) : Ex M d true bu sx Γ pc L (.ref i :: st) σ Q := by
  intro p l e R s m args below meth c E H locs cells slots ls HC Hw hl hb
  have hts := HC.2.2.2.2.2.1
  have hlo := HC.2.2.2.2.2.2.2.2.2.2
  exact W.objInit HC.1 HC.2.1 HC.2.2.2.2.1 (hts _ hw) (hts _ oiw.1) (hts _ oiw.2) rfl (by rw [HC.2.2.2.1]; exact hl.1) rfl hd (Nat.le_trans hdd HC.2.2.2.2.2.2.2.2.2.1) (by show 2 * 0 + _ + 12 ≤ _; rw [cat_map]; omega) (K p l e R s m args below meth c E H locs cells slots ls HC Hw hl hb)
end EX6
