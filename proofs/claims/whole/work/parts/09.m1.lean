/-! ===== the cells of a MovingPlaces: its worlds one by one ===== -/
theorem mp_inA {ws : va_W} {sz q : Nat} (h : q ∈ ws.map (fun q => q.1)) : va_A ws sz q := by
  obtain ⟨x, hx, rfl⟩ := List.mem_map.mp h
  obtain ⟨i, hi⟩ := List.getElem?_of_mem hx
  exact Or.inl ⟨i, x.2, hi⟩
theorem mp_jn {A : Nat → Prop} {D : va_G} {cl : List vw_C} {ws wc wr w1 ws' : va_W} {as : List Nat} {H H1 : Heap} (hP : va_P D cl ws H) (hD : va_D A ws) (hk : ∀ q : Nat, q < H.size → ¬ mp_A as q → H1[q]? = H[q]?) (hP1 : va_P D cl w1 H1) (isC isR perm : List Nat) (hC : isC.map (fun i => ws[i]?) = wc.map some) (hR : isR.map (fun i => ws[i]?) = wr.map some) (hnC : va_nd isC = true) (hn : va_nd isR = true) (hdis : ∀ i ∈ isR, i ∉ isC) (has : wc.map (fun q => q.1) = as) (hw1 : w1.map (fun q => q.1) = wc.map (fun q => q.1)) (hp : perm.filterMap (fun i => (wr ++ w1)[i]?) = ws') : va_P D cl ws' H1 := by
  have hDt : va_D (fun _ => True) ws := mp_Dw hD (fun _ _ => trivial)
  have hDc : va_D (fun _ => True) wc := hDt.sub isC hnC hC
  obtain ⟨h1, -⟩ := va_join (A0 := fun _ => True) hP hDt isC isR hC hR hn hdis (fun q h1 h2 => hk q h1 (fun z => h2 (mp_inA (by rw [has]; exact z)))) (fun _ _ => trivial) hP1 (mp_Ds (hDc.self (sz := H.size)) hw1)
  exact h1.sub perm hp
theorem mp_aald {p : Program} {l : Launch} {e : Env} {R : Room} {s : State} {m : MethodId} {args : Array Value} {below : List Frame} {meth : Method} {c : Code} {H : Heap} {locs : List Loc} {cells slots : Nat} {Q : State → Prop} {cc : ByteArray} {pc : Nat} {ls : Array Slot} {rest : List Value} {D : va_G} {cl : List vw_C} {a b : Nat} {tys : List (ClassId × FieldType)} {ws : va_W} (hexec : p.tables.exec = Jvm.exec) (hb : c.code = cc) (hK : va_K D cl tys s) (hP : va_P D cl ws H) (q0 t0 : Nat) {cA : ClassId} {C : String} {n : Nat} {f : Nat → Option Nat} (ha : ws[q0]? = some (a, .inl (cA, n, .inr (.inr (.inr (.inr f)))))) (ht : tys[t0]? = some (cA, .object C)) {i : Int32} (hin : mp_ix i n = true) (hf : f i.toNatClampNeg = some b) (hdg : decode cc pc = .ok (.aaload, 1))
    (kk : W p l e R s m args below meth c H locs cells slots Q (F0 m (pc + 1) ls (.ref b :: rest))) : W p l e R s m args below meth c H locs cells slots Q (F0 m pc ls (.int i :: .ref a :: rest)) := by
  refine va_aldq hexec hb hK hP q0 t0 ha ht (mp_ix_in hin) hdg ?_
  rw [hf]
  exact kk
abbrev cB (k : KK) (ad ao : Nat → Nat) (v w : SW) : va_W := cW k ad w ++ cW k ao v
abbrev aB (ad ao : Nat → Nat) : List Nat := aW ad ++ aW ao
theorem pM_now {k : KK} {ad : Nat → Nat} {S : SM} {D : va_G} {cl : List vw_C} {H : Heap} (h : va_P D cl (cM k ad S) H) : va_P D cl (cW k (fun i => ad (i + 1)) S.1) H := h.sub [1, 2, 3, 4, 5, 6, 7, 8, 9] rfl
theorem dM_now {k : KK} {ad : Nat → Nat} {S : SM} {A : Nat → Prop} (h : va_D A (cM k ad S)) : va_D A (cW k (fun i => ad (i + 1)) S.1) := h.sub [1, 2, 3, 4, 5, 6, 7, 8, 9] (by decide) rfl
theorem jM_now {k : KK} {ad : Nat → Nat} {S : SM} {u : SW} {A : Nat → Prop} {H H1 : Heap} (hP : va_P (kD k) mp_cls (cM k ad S) H) (hD : va_D A (cM k ad S)) (hk : ∀ q : Nat, q < H.size → ¬ mp_A (aW (fun i => ad (i + 1))) q → H1[q]? = H[q]?) (hP1 : va_P (kD k) mp_cls (cW k (fun i => ad (i + 1)) u) H1) : va_P (kD k) mp_cls (cM k ad (u, S.2.1, S.2.2.1, S.2.2.2.1, S.2.2.2.2.1, S.2.2.2.2.2.1, S.2.2.2.2.2.2)) H1 :=
  mp_jn (wc := cW k (fun i => ad (i + 1)) S.1) (wr := [(ad 0, .inr (1, [.ref (ad 1), .ref (ad 10), .int S.2.2.1, .ref (ad 19), .ref (ad 47)]))] ++ cW k (fun i => ad (i + 10)) S.2.1 ++ [(ad 19, .inl (kO k, 3, .inr (.inr (.inr (.inr (mp_tr ad))))))] ++ cW k (fun i => ad (i + 20)) S.2.2.2.1 ++ cW k (fun i => ad (i + 29)) S.2.2.2.2.1 ++ cW k (fun i => ad (i + 38)) S.2.2.2.2.2.1 ++ [(ad 47, .inl (kI k, 3, .inl S.2.2.2.2.2.2))]) (w1 := cW k (fun i => ad (i + 1)) u) hP hD hk hP1 [1, 2, 3, 4, 5, 6, 7, 8, 9] [0, 10, 11, 12, 13, 14, 15, 16, 17, 18, 19, 20, 21, 22, 23, 24, 25, 26, 27, 28, 29, 30, 31, 32, 33, 34, 35, 36, 37, 38, 39, 40, 41, 42, 43, 44, 45, 46, 47] [0, 39, 40, 41, 42, 43, 44, 45, 46, 47, 1, 2, 3, 4, 5, 6, 7, 8, 9, 10, 11, 12, 13, 14, 15, 16, 17, 18, 19, 20, 21, 22, 23, 24, 25, 26, 27, 28, 29, 30, 31, 32, 33, 34, 35, 36, 37, 38] rfl rfl (by decide) (by decide) (by decide) rfl rfl rfl
theorem pM_image {k : KK} {ad : Nat → Nat} {S : SM} {D : va_G} {cl : List vw_C} {H : Heap} (h : va_P D cl (cM k ad S) H) : va_P D cl (cW k (fun i => ad (i + 10)) S.2.1) H := h.sub [10, 11, 12, 13, 14, 15, 16, 17, 18] rfl
theorem dM_image {k : KK} {ad : Nat → Nat} {S : SM} {A : Nat → Prop} (h : va_D A (cM k ad S)) : va_D A (cW k (fun i => ad (i + 10)) S.2.1) := h.sub [10, 11, 12, 13, 14, 15, 16, 17, 18] (by decide) rfl
theorem jM_image {k : KK} {ad : Nat → Nat} {S : SM} {u : SW} {A : Nat → Prop} {H H1 : Heap} (hP : va_P (kD k) mp_cls (cM k ad S) H) (hD : va_D A (cM k ad S)) (hk : ∀ q : Nat, q < H.size → ¬ mp_A (aW (fun i => ad (i + 10))) q → H1[q]? = H[q]?) (hP1 : va_P (kD k) mp_cls (cW k (fun i => ad (i + 10)) u) H1) : va_P (kD k) mp_cls (cM k ad (S.1, u, S.2.2.1, S.2.2.2.1, S.2.2.2.2.1, S.2.2.2.2.2.1, S.2.2.2.2.2.2)) H1 :=
  mp_jn (wc := cW k (fun i => ad (i + 10)) S.2.1) (wr := [(ad 0, .inr (1, [.ref (ad 1), .ref (ad 10), .int S.2.2.1, .ref (ad 19), .ref (ad 47)]))] ++ cW k (fun i => ad (i + 1)) S.1 ++ [(ad 19, .inl (kO k, 3, .inr (.inr (.inr (.inr (mp_tr ad))))))] ++ cW k (fun i => ad (i + 20)) S.2.2.2.1 ++ cW k (fun i => ad (i + 29)) S.2.2.2.2.1 ++ cW k (fun i => ad (i + 38)) S.2.2.2.2.2.1 ++ [(ad 47, .inl (kI k, 3, .inl S.2.2.2.2.2.2))]) (w1 := cW k (fun i => ad (i + 10)) u) hP hD hk hP1 [10, 11, 12, 13, 14, 15, 16, 17, 18] [0, 1, 2, 3, 4, 5, 6, 7, 8, 9, 19, 20, 21, 22, 23, 24, 25, 26, 27, 28, 29, 30, 31, 32, 33, 34, 35, 36, 37, 38, 39, 40, 41, 42, 43, 44, 45, 46, 47] [0, 1, 2, 3, 4, 5, 6, 7, 8, 9, 39, 40, 41, 42, 43, 44, 45, 46, 47, 10, 11, 12, 13, 14, 15, 16, 17, 18, 19, 20, 21, 22, 23, 24, 25, 26, 27, 28, 29, 30, 31, 32, 33, 34, 35, 36, 37, 38] rfl rfl (by decide) (by decide) (by decide) rfl rfl rfl
theorem pM_t0 {k : KK} {ad : Nat → Nat} {S : SM} {D : va_G} {cl : List vw_C} {H : Heap} (h : va_P D cl (cM k ad S) H) : va_P D cl (cW k (fun i => ad (i + 20)) S.2.2.2.1) H := h.sub [20, 21, 22, 23, 24, 25, 26, 27, 28] rfl
theorem dM_t0 {k : KK} {ad : Nat → Nat} {S : SM} {A : Nat → Prop} (h : va_D A (cM k ad S)) : va_D A (cW k (fun i => ad (i + 20)) S.2.2.2.1) := h.sub [20, 21, 22, 23, 24, 25, 26, 27, 28] (by decide) rfl
theorem jM_t0 {k : KK} {ad : Nat → Nat} {S : SM} {u : SW} {A : Nat → Prop} {H H1 : Heap} (hP : va_P (kD k) mp_cls (cM k ad S) H) (hD : va_D A (cM k ad S)) (hk : ∀ q : Nat, q < H.size → ¬ mp_A (aW (fun i => ad (i + 20))) q → H1[q]? = H[q]?) (hP1 : va_P (kD k) mp_cls (cW k (fun i => ad (i + 20)) u) H1) : va_P (kD k) mp_cls (cM k ad (S.1, S.2.1, S.2.2.1, u, S.2.2.2.2.1, S.2.2.2.2.2.1, S.2.2.2.2.2.2)) H1 :=
  mp_jn (wc := cW k (fun i => ad (i + 20)) S.2.2.2.1) (wr := [(ad 0, .inr (1, [.ref (ad 1), .ref (ad 10), .int S.2.2.1, .ref (ad 19), .ref (ad 47)]))] ++ cW k (fun i => ad (i + 1)) S.1 ++ cW k (fun i => ad (i + 10)) S.2.1 ++ [(ad 19, .inl (kO k, 3, .inr (.inr (.inr (.inr (mp_tr ad))))))] ++ cW k (fun i => ad (i + 29)) S.2.2.2.2.1 ++ cW k (fun i => ad (i + 38)) S.2.2.2.2.2.1 ++ [(ad 47, .inl (kI k, 3, .inl S.2.2.2.2.2.2))]) (w1 := cW k (fun i => ad (i + 20)) u) hP hD hk hP1 [20, 21, 22, 23, 24, 25, 26, 27, 28] [0, 1, 2, 3, 4, 5, 6, 7, 8, 9, 10, 11, 12, 13, 14, 15, 16, 17, 18, 19, 29, 30, 31, 32, 33, 34, 35, 36, 37, 38, 39, 40, 41, 42, 43, 44, 45, 46, 47] [0, 1, 2, 3, 4, 5, 6, 7, 8, 9, 10, 11, 12, 13, 14, 15, 16, 17, 18, 19, 39, 40, 41, 42, 43, 44, 45, 46, 47, 20, 21, 22, 23, 24, 25, 26, 27, 28, 29, 30, 31, 32, 33, 34, 35, 36, 37, 38] rfl rfl (by decide) (by decide) (by decide) rfl rfl rfl
theorem pM_t1 {k : KK} {ad : Nat → Nat} {S : SM} {D : va_G} {cl : List vw_C} {H : Heap} (h : va_P D cl (cM k ad S) H) : va_P D cl (cW k (fun i => ad (i + 29)) S.2.2.2.2.1) H := h.sub [29, 30, 31, 32, 33, 34, 35, 36, 37] rfl
theorem dM_t1 {k : KK} {ad : Nat → Nat} {S : SM} {A : Nat → Prop} (h : va_D A (cM k ad S)) : va_D A (cW k (fun i => ad (i + 29)) S.2.2.2.2.1) := h.sub [29, 30, 31, 32, 33, 34, 35, 36, 37] (by decide) rfl
theorem jM_t1 {k : KK} {ad : Nat → Nat} {S : SM} {u : SW} {A : Nat → Prop} {H H1 : Heap} (hP : va_P (kD k) mp_cls (cM k ad S) H) (hD : va_D A (cM k ad S)) (hk : ∀ q : Nat, q < H.size → ¬ mp_A (aW (fun i => ad (i + 29))) q → H1[q]? = H[q]?) (hP1 : va_P (kD k) mp_cls (cW k (fun i => ad (i + 29)) u) H1) : va_P (kD k) mp_cls (cM k ad (S.1, S.2.1, S.2.2.1, S.2.2.2.1, u, S.2.2.2.2.2.1, S.2.2.2.2.2.2)) H1 :=
  mp_jn (wc := cW k (fun i => ad (i + 29)) S.2.2.2.2.1) (wr := [(ad 0, .inr (1, [.ref (ad 1), .ref (ad 10), .int S.2.2.1, .ref (ad 19), .ref (ad 47)]))] ++ cW k (fun i => ad (i + 1)) S.1 ++ cW k (fun i => ad (i + 10)) S.2.1 ++ [(ad 19, .inl (kO k, 3, .inr (.inr (.inr (.inr (mp_tr ad))))))] ++ cW k (fun i => ad (i + 20)) S.2.2.2.1 ++ cW k (fun i => ad (i + 38)) S.2.2.2.2.2.1 ++ [(ad 47, .inl (kI k, 3, .inl S.2.2.2.2.2.2))]) (w1 := cW k (fun i => ad (i + 29)) u) hP hD hk hP1 [29, 30, 31, 32, 33, 34, 35, 36, 37] [0, 1, 2, 3, 4, 5, 6, 7, 8, 9, 10, 11, 12, 13, 14, 15, 16, 17, 18, 19, 20, 21, 22, 23, 24, 25, 26, 27, 28, 38, 39, 40, 41, 42, 43, 44, 45, 46, 47] [0, 1, 2, 3, 4, 5, 6, 7, 8, 9, 10, 11, 12, 13, 14, 15, 16, 17, 18, 19, 20, 21, 22, 23, 24, 25, 26, 27, 28, 39, 40, 41, 42, 43, 44, 45, 46, 47, 29, 30, 31, 32, 33, 34, 35, 36, 37, 38] rfl rfl (by decide) (by decide) (by decide) rfl rfl rfl
theorem pM_t2 {k : KK} {ad : Nat → Nat} {S : SM} {D : va_G} {cl : List vw_C} {H : Heap} (h : va_P D cl (cM k ad S) H) : va_P D cl (cW k (fun i => ad (i + 38)) S.2.2.2.2.2.1) H := h.sub [38, 39, 40, 41, 42, 43, 44, 45, 46] rfl
theorem dM_t2 {k : KK} {ad : Nat → Nat} {S : SM} {A : Nat → Prop} (h : va_D A (cM k ad S)) : va_D A (cW k (fun i => ad (i + 38)) S.2.2.2.2.2.1) := h.sub [38, 39, 40, 41, 42, 43, 44, 45, 46] (by decide) rfl
theorem jM_t2 {k : KK} {ad : Nat → Nat} {S : SM} {u : SW} {A : Nat → Prop} {H H1 : Heap} (hP : va_P (kD k) mp_cls (cM k ad S) H) (hD : va_D A (cM k ad S)) (hk : ∀ q : Nat, q < H.size → ¬ mp_A (aW (fun i => ad (i + 38))) q → H1[q]? = H[q]?) (hP1 : va_P (kD k) mp_cls (cW k (fun i => ad (i + 38)) u) H1) : va_P (kD k) mp_cls (cM k ad (S.1, S.2.1, S.2.2.1, S.2.2.2.1, S.2.2.2.2.1, u, S.2.2.2.2.2.2)) H1 :=
  mp_jn (wc := cW k (fun i => ad (i + 38)) S.2.2.2.2.2.1) (wr := [(ad 0, .inr (1, [.ref (ad 1), .ref (ad 10), .int S.2.2.1, .ref (ad 19), .ref (ad 47)]))] ++ cW k (fun i => ad (i + 1)) S.1 ++ cW k (fun i => ad (i + 10)) S.2.1 ++ [(ad 19, .inl (kO k, 3, .inr (.inr (.inr (.inr (mp_tr ad))))))] ++ cW k (fun i => ad (i + 20)) S.2.2.2.1 ++ cW k (fun i => ad (i + 29)) S.2.2.2.2.1 ++ [(ad 47, .inl (kI k, 3, .inl S.2.2.2.2.2.2))]) (w1 := cW k (fun i => ad (i + 38)) u) hP hD hk hP1 [38, 39, 40, 41, 42, 43, 44, 45, 46] [0, 1, 2, 3, 4, 5, 6, 7, 8, 9, 10, 11, 12, 13, 14, 15, 16, 17, 18, 19, 20, 21, 22, 23, 24, 25, 26, 27, 28, 29, 30, 31, 32, 33, 34, 35, 36, 37, 47] [0, 1, 2, 3, 4, 5, 6, 7, 8, 9, 10, 11, 12, 13, 14, 15, 16, 17, 18, 19, 20, 21, 22, 23, 24, 25, 26, 27, 28, 29, 30, 31, 32, 33, 34, 35, 36, 37, 39, 40, 41, 42, 43, 44, 45, 46, 47, 38] rfl rfl (by decide) (by decide) (by decide) rfl rfl rfl
theorem pM_image_now {k : KK} {ad : Nat → Nat} {S : SM} {D : va_G} {cl : List vw_C} {H : Heap} (h : va_P D cl (cM k ad S) H) : va_P D cl (cB k (fun i => ad (i + 10)) (fun i => ad (i + 1)) S.1 S.2.1) H := h.sub [10, 11, 12, 13, 14, 15, 16, 17, 18, 1, 2, 3, 4, 5, 6, 7, 8, 9] rfl
theorem dM_image_now {k : KK} {ad : Nat → Nat} {S : SM} {A : Nat → Prop} (h : va_D A (cM k ad S)) : va_D A (cB k (fun i => ad (i + 10)) (fun i => ad (i + 1)) S.1 S.2.1) := h.sub [10, 11, 12, 13, 14, 15, 16, 17, 18, 1, 2, 3, 4, 5, 6, 7, 8, 9] (by decide) rfl
theorem jM_image_now {k : KK} {ad : Nat → Nat} {S : SM} {u : SW} {A : Nat → Prop} {H H1 : Heap} (hP : va_P (kD k) mp_cls (cM k ad S) H) (hD : va_D A (cM k ad S)) (hk : ∀ q : Nat, q < H.size → ¬ mp_A (aB (fun i => ad (i + 10)) (fun i => ad (i + 1))) q → H1[q]? = H[q]?) (hP1 : va_P (kD k) mp_cls (cB k (fun i => ad (i + 10)) (fun i => ad (i + 1)) S.1 u) H1) : va_P (kD k) mp_cls (cM k ad (S.1, u, S.2.2.1, S.2.2.2.1, S.2.2.2.2.1, S.2.2.2.2.2.1, S.2.2.2.2.2.2)) H1 :=
  mp_jn (wc := cB k (fun i => ad (i + 10)) (fun i => ad (i + 1)) S.1 S.2.1) (wr := [(ad 0, .inr (1, [.ref (ad 1), .ref (ad 10), .int S.2.2.1, .ref (ad 19), .ref (ad 47)]))] ++ [(ad 19, .inl (kO k, 3, .inr (.inr (.inr (.inr (mp_tr ad))))))] ++ cW k (fun i => ad (i + 20)) S.2.2.2.1 ++ cW k (fun i => ad (i + 29)) S.2.2.2.2.1 ++ cW k (fun i => ad (i + 38)) S.2.2.2.2.2.1 ++ [(ad 47, .inl (kI k, 3, .inl S.2.2.2.2.2.2))]) (w1 := cB k (fun i => ad (i + 10)) (fun i => ad (i + 1)) S.1 u) hP hD hk hP1 [10, 11, 12, 13, 14, 15, 16, 17, 18, 1, 2, 3, 4, 5, 6, 7, 8, 9] [0, 19, 20, 21, 22, 23, 24, 25, 26, 27, 28, 29, 30, 31, 32, 33, 34, 35, 36, 37, 38, 39, 40, 41, 42, 43, 44, 45, 46, 47] [0, 39, 40, 41, 42, 43, 44, 45, 46, 47, 30, 31, 32, 33, 34, 35, 36, 37, 38, 1, 2, 3, 4, 5, 6, 7, 8, 9, 10, 11, 12, 13, 14, 15, 16, 17, 18, 19, 20, 21, 22, 23, 24, 25, 26, 27, 28, 29] rfl rfl (by decide) (by decide) (by decide) rfl rfl rfl
theorem pM_now_image {k : KK} {ad : Nat → Nat} {S : SM} {D : va_G} {cl : List vw_C} {H : Heap} (h : va_P D cl (cM k ad S) H) : va_P D cl (cB k (fun i => ad (i + 1)) (fun i => ad (i + 10)) S.2.1 S.1) H := h.sub [1, 2, 3, 4, 5, 6, 7, 8, 9, 10, 11, 12, 13, 14, 15, 16, 17, 18] rfl
theorem dM_now_image {k : KK} {ad : Nat → Nat} {S : SM} {A : Nat → Prop} (h : va_D A (cM k ad S)) : va_D A (cB k (fun i => ad (i + 1)) (fun i => ad (i + 10)) S.2.1 S.1) := h.sub [1, 2, 3, 4, 5, 6, 7, 8, 9, 10, 11, 12, 13, 14, 15, 16, 17, 18] (by decide) rfl
theorem jM_now_image {k : KK} {ad : Nat → Nat} {S : SM} {u : SW} {A : Nat → Prop} {H H1 : Heap} (hP : va_P (kD k) mp_cls (cM k ad S) H) (hD : va_D A (cM k ad S)) (hk : ∀ q : Nat, q < H.size → ¬ mp_A (aB (fun i => ad (i + 1)) (fun i => ad (i + 10))) q → H1[q]? = H[q]?) (hP1 : va_P (kD k) mp_cls (cB k (fun i => ad (i + 1)) (fun i => ad (i + 10)) S.2.1 u) H1) : va_P (kD k) mp_cls (cM k ad (u, S.2.1, S.2.2.1, S.2.2.2.1, S.2.2.2.2.1, S.2.2.2.2.2.1, S.2.2.2.2.2.2)) H1 :=
  mp_jn (wc := cB k (fun i => ad (i + 1)) (fun i => ad (i + 10)) S.2.1 S.1) (wr := [(ad 0, .inr (1, [.ref (ad 1), .ref (ad 10), .int S.2.2.1, .ref (ad 19), .ref (ad 47)]))] ++ [(ad 19, .inl (kO k, 3, .inr (.inr (.inr (.inr (mp_tr ad))))))] ++ cW k (fun i => ad (i + 20)) S.2.2.2.1 ++ cW k (fun i => ad (i + 29)) S.2.2.2.2.1 ++ cW k (fun i => ad (i + 38)) S.2.2.2.2.2.1 ++ [(ad 47, .inl (kI k, 3, .inl S.2.2.2.2.2.2))]) (w1 := cB k (fun i => ad (i + 1)) (fun i => ad (i + 10)) S.2.1 u) hP hD hk hP1 [1, 2, 3, 4, 5, 6, 7, 8, 9, 10, 11, 12, 13, 14, 15, 16, 17, 18] [0, 19, 20, 21, 22, 23, 24, 25, 26, 27, 28, 29, 30, 31, 32, 33, 34, 35, 36, 37, 38, 39, 40, 41, 42, 43, 44, 45, 46, 47] [0, 30, 31, 32, 33, 34, 35, 36, 37, 38, 39, 40, 41, 42, 43, 44, 45, 46, 47, 1, 2, 3, 4, 5, 6, 7, 8, 9, 10, 11, 12, 13, 14, 15, 16, 17, 18, 19, 20, 21, 22, 23, 24, 25, 26, 27, 28, 29] rfl rfl (by decide) (by decide) (by decide) rfl rfl rfl
theorem pM_t0_now {k : KK} {ad : Nat → Nat} {S : SM} {D : va_G} {cl : List vw_C} {H : Heap} (h : va_P D cl (cM k ad S) H) : va_P D cl (cB k (fun i => ad (i + 20)) (fun i => ad (i + 1)) S.1 S.2.2.2.1) H := h.sub [20, 21, 22, 23, 24, 25, 26, 27, 28, 1, 2, 3, 4, 5, 6, 7, 8, 9] rfl
theorem dM_t0_now {k : KK} {ad : Nat → Nat} {S : SM} {A : Nat → Prop} (h : va_D A (cM k ad S)) : va_D A (cB k (fun i => ad (i + 20)) (fun i => ad (i + 1)) S.1 S.2.2.2.1) := h.sub [20, 21, 22, 23, 24, 25, 26, 27, 28, 1, 2, 3, 4, 5, 6, 7, 8, 9] (by decide) rfl
theorem jM_t0_now {k : KK} {ad : Nat → Nat} {S : SM} {u : SW} {A : Nat → Prop} {H H1 : Heap} (hP : va_P (kD k) mp_cls (cM k ad S) H) (hD : va_D A (cM k ad S)) (hk : ∀ q : Nat, q < H.size → ¬ mp_A (aB (fun i => ad (i + 20)) (fun i => ad (i + 1))) q → H1[q]? = H[q]?) (hP1 : va_P (kD k) mp_cls (cB k (fun i => ad (i + 20)) (fun i => ad (i + 1)) S.1 u) H1) : va_P (kD k) mp_cls (cM k ad (S.1, S.2.1, S.2.2.1, u, S.2.2.2.2.1, S.2.2.2.2.2.1, S.2.2.2.2.2.2)) H1 :=
  mp_jn (wc := cB k (fun i => ad (i + 20)) (fun i => ad (i + 1)) S.1 S.2.2.2.1) (wr := [(ad 0, .inr (1, [.ref (ad 1), .ref (ad 10), .int S.2.2.1, .ref (ad 19), .ref (ad 47)]))] ++ cW k (fun i => ad (i + 10)) S.2.1 ++ [(ad 19, .inl (kO k, 3, .inr (.inr (.inr (.inr (mp_tr ad))))))] ++ cW k (fun i => ad (i + 29)) S.2.2.2.2.1 ++ cW k (fun i => ad (i + 38)) S.2.2.2.2.2.1 ++ [(ad 47, .inl (kI k, 3, .inl S.2.2.2.2.2.2))]) (w1 := cB k (fun i => ad (i + 20)) (fun i => ad (i + 1)) S.1 u) hP hD hk hP1 [20, 21, 22, 23, 24, 25, 26, 27, 28, 1, 2, 3, 4, 5, 6, 7, 8, 9] [0, 10, 11, 12, 13, 14, 15, 16, 17, 18, 19, 29, 30, 31, 32, 33, 34, 35, 36, 37, 38, 39, 40, 41, 42, 43, 44, 45, 46, 47] [0, 39, 40, 41, 42, 43, 44, 45, 46, 47, 1, 2, 3, 4, 5, 6, 7, 8, 9, 10, 30, 31, 32, 33, 34, 35, 36, 37, 38, 11, 12, 13, 14, 15, 16, 17, 18, 19, 20, 21, 22, 23, 24, 25, 26, 27, 28, 29] rfl rfl (by decide) (by decide) (by decide) rfl rfl rfl
theorem pM_t1_t0 {k : KK} {ad : Nat → Nat} {S : SM} {D : va_G} {cl : List vw_C} {H : Heap} (h : va_P D cl (cM k ad S) H) : va_P D cl (cB k (fun i => ad (i + 29)) (fun i => ad (i + 20)) S.2.2.2.1 S.2.2.2.2.1) H := h.sub [29, 30, 31, 32, 33, 34, 35, 36, 37, 20, 21, 22, 23, 24, 25, 26, 27, 28] rfl
theorem dM_t1_t0 {k : KK} {ad : Nat → Nat} {S : SM} {A : Nat → Prop} (h : va_D A (cM k ad S)) : va_D A (cB k (fun i => ad (i + 29)) (fun i => ad (i + 20)) S.2.2.2.1 S.2.2.2.2.1) := h.sub [29, 30, 31, 32, 33, 34, 35, 36, 37, 20, 21, 22, 23, 24, 25, 26, 27, 28] (by decide) rfl
theorem jM_t1_t0 {k : KK} {ad : Nat → Nat} {S : SM} {u : SW} {A : Nat → Prop} {H H1 : Heap} (hP : va_P (kD k) mp_cls (cM k ad S) H) (hD : va_D A (cM k ad S)) (hk : ∀ q : Nat, q < H.size → ¬ mp_A (aB (fun i => ad (i + 29)) (fun i => ad (i + 20))) q → H1[q]? = H[q]?) (hP1 : va_P (kD k) mp_cls (cB k (fun i => ad (i + 29)) (fun i => ad (i + 20)) S.2.2.2.1 u) H1) : va_P (kD k) mp_cls (cM k ad (S.1, S.2.1, S.2.2.1, S.2.2.2.1, u, S.2.2.2.2.2.1, S.2.2.2.2.2.2)) H1 :=
  mp_jn (wc := cB k (fun i => ad (i + 29)) (fun i => ad (i + 20)) S.2.2.2.1 S.2.2.2.2.1) (wr := [(ad 0, .inr (1, [.ref (ad 1), .ref (ad 10), .int S.2.2.1, .ref (ad 19), .ref (ad 47)]))] ++ cW k (fun i => ad (i + 1)) S.1 ++ cW k (fun i => ad (i + 10)) S.2.1 ++ [(ad 19, .inl (kO k, 3, .inr (.inr (.inr (.inr (mp_tr ad))))))] ++ cW k (fun i => ad (i + 38)) S.2.2.2.2.2.1 ++ [(ad 47, .inl (kI k, 3, .inl S.2.2.2.2.2.2))]) (w1 := cB k (fun i => ad (i + 29)) (fun i => ad (i + 20)) S.2.2.2.1 u) hP hD hk hP1 [29, 30, 31, 32, 33, 34, 35, 36, 37, 20, 21, 22, 23, 24, 25, 26, 27, 28] [0, 1, 2, 3, 4, 5, 6, 7, 8, 9, 10, 11, 12, 13, 14, 15, 16, 17, 18, 19, 38, 39, 40, 41, 42, 43, 44, 45, 46, 47] [0, 1, 2, 3, 4, 5, 6, 7, 8, 9, 10, 11, 12, 13, 14, 15, 16, 17, 18, 19, 39, 40, 41, 42, 43, 44, 45, 46, 47, 30, 31, 32, 33, 34, 35, 36, 37, 38, 20, 21, 22, 23, 24, 25, 26, 27, 28, 29] rfl rfl (by decide) (by decide) (by decide) rfl rfl rfl
theorem pM_t2_t1 {k : KK} {ad : Nat → Nat} {S : SM} {D : va_G} {cl : List vw_C} {H : Heap} (h : va_P D cl (cM k ad S) H) : va_P D cl (cB k (fun i => ad (i + 38)) (fun i => ad (i + 29)) S.2.2.2.2.1 S.2.2.2.2.2.1) H := h.sub [38, 39, 40, 41, 42, 43, 44, 45, 46, 29, 30, 31, 32, 33, 34, 35, 36, 37] rfl
theorem dM_t2_t1 {k : KK} {ad : Nat → Nat} {S : SM} {A : Nat → Prop} (h : va_D A (cM k ad S)) : va_D A (cB k (fun i => ad (i + 38)) (fun i => ad (i + 29)) S.2.2.2.2.1 S.2.2.2.2.2.1) := h.sub [38, 39, 40, 41, 42, 43, 44, 45, 46, 29, 30, 31, 32, 33, 34, 35, 36, 37] (by decide) rfl
theorem jM_t2_t1 {k : KK} {ad : Nat → Nat} {S : SM} {u : SW} {A : Nat → Prop} {H H1 : Heap} (hP : va_P (kD k) mp_cls (cM k ad S) H) (hD : va_D A (cM k ad S)) (hk : ∀ q : Nat, q < H.size → ¬ mp_A (aB (fun i => ad (i + 38)) (fun i => ad (i + 29))) q → H1[q]? = H[q]?) (hP1 : va_P (kD k) mp_cls (cB k (fun i => ad (i + 38)) (fun i => ad (i + 29)) S.2.2.2.2.1 u) H1) : va_P (kD k) mp_cls (cM k ad (S.1, S.2.1, S.2.2.1, S.2.2.2.1, S.2.2.2.2.1, u, S.2.2.2.2.2.2)) H1 :=
  mp_jn (wc := cB k (fun i => ad (i + 38)) (fun i => ad (i + 29)) S.2.2.2.2.1 S.2.2.2.2.2.1) (wr := [(ad 0, .inr (1, [.ref (ad 1), .ref (ad 10), .int S.2.2.1, .ref (ad 19), .ref (ad 47)]))] ++ cW k (fun i => ad (i + 1)) S.1 ++ cW k (fun i => ad (i + 10)) S.2.1 ++ [(ad 19, .inl (kO k, 3, .inr (.inr (.inr (.inr (mp_tr ad))))))] ++ cW k (fun i => ad (i + 20)) S.2.2.2.1 ++ [(ad 47, .inl (kI k, 3, .inl S.2.2.2.2.2.2))]) (w1 := cB k (fun i => ad (i + 38)) (fun i => ad (i + 29)) S.2.2.2.2.1 u) hP hD hk hP1 [38, 39, 40, 41, 42, 43, 44, 45, 46, 29, 30, 31, 32, 33, 34, 35, 36, 37] [0, 1, 2, 3, 4, 5, 6, 7, 8, 9, 10, 11, 12, 13, 14, 15, 16, 17, 18, 19, 20, 21, 22, 23, 24, 25, 26, 27, 28, 47] [0, 1, 2, 3, 4, 5, 6, 7, 8, 9, 10, 11, 12, 13, 14, 15, 16, 17, 18, 19, 20, 21, 22, 23, 24, 25, 26, 27, 28, 39, 40, 41, 42, 43, 44, 45, 46, 47, 30, 31, 32, 33, 34, 35, 36, 37, 38, 29] rfl rfl (by decide) (by decide) (by decide) rfl rfl rfl
theorem dW_become_0 : decode bW_become 0 = .ok (.aload_n 0, 1) := by decide +kernel
theorem dW_become_1 : decode bW_become 1 = .ok (.aload_n 1, 1) := by decide +kernel
theorem dW_become_2 : decode bW_become 2 = .ok (.getfield 9, 3) := by decide +kernel
theorem dW_become_5 : decode bW_become 5 = .ok (.putfield 9, 3) := by decide +kernel
theorem dW_become_8 : decode bW_become 8 = .ok (.aload_n 0, 1) := by decide +kernel
theorem dW_become_9 : decode bW_become 9 = .ok (.aload_n 1, 1) := by decide +kernel
theorem dW_become_10 : decode bW_become 10 = .ok (.getfield 15, 3) := by decide +kernel
theorem dW_become_13 : decode bW_become 13 = .ok (.putfield 15, 3) := by decide +kernel
theorem dW_become_16 : decode bW_become 16 = .ok (.aload_n 0, 1) := by decide +kernel
theorem dW_become_17 : decode bW_become 17 = .ok (.aload_n 1, 1) := by decide +kernel
theorem dW_become_18 : decode bW_become 18 = .ok (.getfield 18, 3) := by decide +kernel
theorem dW_become_21 : decode bW_become 21 = .ok (.putfield 18, 3) := by decide +kernel
theorem dW_become_24 : decode bW_become 24 = .ok (.aload_n 1, 1) := by decide +kernel
theorem dW_become_25 : decode bW_become 25 = .ok (.getfield 21, 3) := by decide +kernel
theorem dW_become_28 : decode bW_become 28 = .ok (.iconst 0, 1) := by decide +kernel
theorem dW_become_29 : decode bW_become 29 = .ok (.aload_n 0, 1) := by decide +kernel
theorem dW_become_30 : decode bW_become 30 = .ok (.getfield 21, 3) := by decide +kernel
theorem dW_become_33 : decode bW_become 33 = .ok (.iconst 0, 1) := by decide +kernel
theorem dW_become_34 : decode bW_become 34 = .ok (.bipush 12, 2) := by decide +kernel
theorem dW_become_36 : decode bW_become 36 = .ok (.invokestatic 50, 3) := by decide +kernel
theorem dW_become_39 : decode bW_become 39 = .ok (.aload_n 1, 1) := by decide +kernel
theorem dW_become_40 : decode bW_become 40 = .ok (.getfield 25, 3) := by decide +kernel
theorem dW_become_43 : decode bW_become 43 = .ok (.iconst 0, 1) := by decide +kernel
theorem dW_become_44 : decode bW_become 44 = .ok (.aload_n 0, 1) := by decide +kernel
theorem dW_become_45 : decode bW_become 45 = .ok (.getfield 25, 3) := by decide +kernel
theorem dW_become_48 : decode bW_become 48 = .ok (.iconst 0, 1) := by decide +kernel
theorem dW_become_49 : decode bW_become 49 = .ok (.bipush 12, 2) := by decide +kernel
theorem dW_become_51 : decode bW_become 51 = .ok (.invokestatic 50, 3) := by decide +kernel
theorem dW_become_54 : decode bW_become 54 = .ok (.aload_n 1, 1) := by decide +kernel
theorem dW_become_55 : decode bW_become 55 = .ok (.getfield 28, 3) := by decide +kernel
theorem dW_become_58 : decode bW_become 58 = .ok (.iconst 0, 1) := by decide +kernel
theorem dW_become_59 : decode bW_become 59 = .ok (.aload_n 0, 1) := by decide +kernel
theorem dW_become_60 : decode bW_become 60 = .ok (.getfield 28, 3) := by decide +kernel
theorem dW_become_63 : decode bW_become 63 = .ok (.iconst 0, 1) := by decide +kernel
theorem dW_become_64 : decode bW_become 64 = .ok (.bipush 72, 2) := by decide +kernel
theorem dW_become_66 : decode bW_become 66 = .ok (.invokestatic 50, 3) := by decide +kernel
theorem dW_become_69 : decode bW_become 69 = .ok (.aload_n 0, 1) := by decide +kernel
theorem dW_become_70 : decode bW_become 70 = .ok (.aload_n 1, 1) := by decide +kernel
theorem dW_become_71 : decode bW_become 71 = .ok (.getfield 31, 3) := by decide +kernel
theorem dW_become_74 : decode bW_become 74 = .ok (.putfield 31, 3) := by decide +kernel
theorem dW_become_77 : decode bW_become 77 = .ok (.aload_n 1, 1) := by decide +kernel
theorem dW_become_78 : decode bW_become 78 = .ok (.getfield 34, 3) := by decide +kernel
theorem dW_become_81 : decode bW_become 81 = .ok (.iconst 0, 1) := by decide +kernel
theorem dW_become_82 : decode bW_become 82 = .ok (.aload_n 0, 1) := by decide +kernel
theorem dW_become_83 : decode bW_become 83 = .ok (.getfield 34, 3) := by decide +kernel
theorem dW_become_86 : decode bW_become 86 = .ok (.iconst 0, 1) := by decide +kernel
theorem dW_become_87 : decode bW_become 87 = .ok (.bipush 12, 2) := by decide +kernel
theorem dW_become_89 : decode bW_become 89 = .ok (.invokestatic 50, 3) := by decide +kernel
theorem dW_become_92 : decode bW_become 92 = .ok (.aload_n 1, 1) := by decide +kernel
theorem dW_become_93 : decode bW_become 93 = .ok (.getfield 37, 3) := by decide +kernel
theorem dW_become_96 : decode bW_become 96 = .ok (.iconst 0, 1) := by decide +kernel
theorem dW_become_97 : decode bW_become 97 = .ok (.aload_n 0, 1) := by decide +kernel
theorem dW_become_98 : decode bW_become 98 = .ok (.getfield 37, 3) := by decide +kernel
theorem dW_become_101 : decode bW_become 101 = .ok (.iconst 0, 1) := by decide +kernel
theorem dW_become_102 : decode bW_become 102 = .ok (.bipush 12, 2) := by decide +kernel
theorem dW_become_104 : decode bW_become 104 = .ok (.invokestatic 50, 3) := by decide +kernel
theorem dW_become_107 : decode bW_become 107 = .ok (.aload_n 1, 1) := by decide +kernel
theorem dW_become_108 : decode bW_become 108 = .ok (.getfield 41, 3) := by decide +kernel
theorem dW_become_111 : decode bW_become 111 = .ok (.iconst 0, 1) := by decide +kernel
theorem dW_become_112 : decode bW_become 112 = .ok (.aload_n 0, 1) := by decide +kernel
theorem dW_become_113 : decode bW_become 113 = .ok (.getfield 41, 3) := by decide +kernel
theorem dW_become_116 : decode bW_become 116 = .ok (.iconst 0, 1) := by decide +kernel
theorem dW_become_117 : decode bW_become 117 = .ok (.bipush 12, 2) := by decide +kernel
theorem dW_become_119 : decode bW_become 119 = .ok (.invokestatic 50, 3) := by decide +kernel
theorem dW_become_122 : decode bW_become 122 = .ok (.aload_n 1, 1) := by decide +kernel
theorem dW_become_123 : decode bW_become 123 = .ok (.getfield 44, 3) := by decide +kernel
theorem dW_become_126 : decode bW_become 126 = .ok (.iconst 0, 1) := by decide +kernel
theorem dW_become_127 : decode bW_become 127 = .ok (.aload_n 0, 1) := by decide +kernel
theorem dW_become_128 : decode bW_become 128 = .ok (.getfield 44, 3) := by decide +kernel
theorem dW_become_131 : decode bW_become 131 = .ok (.iconst 0, 1) := by decide +kernel
theorem dW_become_132 : decode bW_become 132 = .ok (.bipush 12, 2) := by decide +kernel
theorem dW_become_134 : decode bW_become 134 = .ok (.invokestatic 50, 3) := by decide +kernel
theorem dW_become_137 : decode bW_become 137 = .ok (.aload_n 1, 1) := by decide +kernel
theorem dW_become_138 : decode bW_become 138 = .ok (.getfield 47, 3) := by decide +kernel
theorem dW_become_141 : decode bW_become 141 = .ok (.iconst 0, 1) := by decide +kernel
theorem dW_become_142 : decode bW_become 142 = .ok (.aload_n 0, 1) := by decide +kernel
theorem dW_become_143 : decode bW_become 143 = .ok (.getfield 47, 3) := by decide +kernel
theorem dW_become_146 : decode bW_become 146 = .ok (.iconst 0, 1) := by decide +kernel
theorem dW_become_147 : decode bW_become 147 = .ok (.bipush 12, 2) := by decide +kernel
theorem dW_become_149 : decode bW_become 149 = .ok (.invokestatic 50, 3) := by decide +kernel
theorem dW_become_152 : decode bW_become 152 = .ok (.return_, 1) := by decide +kernel
theorem dM_place_0 : decode bM_place 0 = .ok (.aload_n 0, 1) := by decide +kernel
theorem dM_place_1 : decode bM_place 1 = .ok (.getfield 10, 3) := by decide +kernel
theorem dM_place_4 : decode bM_place 4 = .ok (.iload_n 1, 1) := by decide +kernel
theorem dM_place_5 : decode bM_place 5 = .ok (.invokevirtual 31, 3) := by decide +kernel
theorem dM_place_8 : decode bM_place 8 = .ok (.ifCond .eq 10, 3) := by decide +kernel
theorem dM_place_11 : decode bM_place 11 = .ok (.iload_n 2, 1) := by decide +kernel
theorem dM_place_12 : decode bM_place 12 = .ok (.invokestatic 35, 3) := by decide +kernel
theorem dM_place_15 : decode bM_place 15 = .ok (.ifCond .ne 5, 3) := by decide +kernel
theorem dM_place_18 : decode bM_place 18 = .ok (.iconst (-1), 1) := by decide +kernel
theorem dM_place_19 : decode bM_place 19 = .ok (.ireturn, 1) := by decide +kernel
theorem dM_place_20 : decode bM_place 20 = .ok (.aload_n 0, 1) := by decide +kernel
theorem dM_place_21 : decode bM_place 21 = .ok (.getfield 10, 3) := by decide +kernel
theorem dM_place_24 : decode bM_place 24 = .ok (.iload_n 1, 1) := by decide +kernel
theorem dM_place_25 : decode bM_place 25 = .ok (.iload_n 2, 1) := by decide +kernel
theorem dM_place_26 : decode bM_place 26 = .ok (.invokevirtual 38, 3) := by decide +kernel
theorem dM_place_29 : decode bM_place 29 = .ok (.ireturn, 1) := by decide +kernel
theorem dM_thread_0 : decode bM_thread 0 = .ok (.aload_n 0, 1) := by decide +kernel
theorem dM_thread_1 : decode bM_thread 1 = .ok (.getfield 10, 3) := by decide +kernel
theorem dM_thread_4 : decode bM_thread 4 = .ok (.iload_n 1, 1) := by decide +kernel
theorem dM_thread_5 : decode bM_thread 5 = .ok (.invokevirtual 31, 3) := by decide +kernel
theorem dM_thread_8 : decode bM_thread 8 = .ok (.ifCond .ne 5, 3) := by decide +kernel
theorem dM_thread_11 : decode bM_thread 11 = .ok (.iconst (-1), 1) := by decide +kernel
theorem dM_thread_12 : decode bM_thread 12 = .ok (.ireturn, 1) := by decide +kernel
theorem dM_thread_13 : decode bM_thread 13 = .ok (.lload_n 2, 1) := by decide +kernel
theorem dM_thread_14 : decode bM_thread 14 = .ok (.invokestatic 42, 3) := by decide +kernel
theorem dM_thread_17 : decode bM_thread 17 = .ok (.istore 4, 2) := by decide +kernel
theorem dM_thread_19 : decode bM_thread 19 = .ok (.iload 4, 2) := by decide +kernel
theorem dM_thread_21 : decode bM_thread 21 = .ok (.ifCond .ne 6, 3) := by decide +kernel
theorem dM_thread_24 : decode bM_thread 24 = .ok (.bipush (-2), 2) := by decide +kernel
theorem dM_thread_26 : decode bM_thread 26 = .ok (.ireturn, 1) := by decide +kernel
theorem dM_thread_27 : decode bM_thread 27 = .ok (.aload_n 0, 1) := by decide +kernel
theorem dM_thread_28 : decode bM_thread 28 = .ok (.getfield 10, 3) := by decide +kernel
theorem dM_thread_31 : decode bM_thread 31 = .ok (.iload_n 1, 1) := by decide +kernel
theorem dM_thread_32 : decode bM_thread 32 = .ok (.lload_n 2, 1) := by decide +kernel
theorem dM_thread_33 : decode bM_thread 33 = .ok (.iload 4, 2) := by decide +kernel
theorem dM_thread_35 : decode bM_thread 35 = .ok (.invokevirtual 46, 3) := by decide +kernel
theorem dM_thread_38 : decode bM_thread 38 = .ok (.ireturn, 1) := by decide +kernel
theorem dM_seal_0 : decode bM_seal 0 = .ok (.aload_n 0, 1) := by decide +kernel
theorem dM_seal_1 : decode bM_seal 1 = .ok (.getfield 10, 3) := by decide +kernel
theorem dM_seal_4 : decode bM_seal 4 = .ok (.iload_n 1, 1) := by decide +kernel
theorem dM_seal_5 : decode bM_seal 5 = .ok (.invokevirtual 31, 3) := by decide +kernel
theorem dM_seal_8 : decode bM_seal 8 = .ok (.ifCond .ne 5, 3) := by decide +kernel
theorem dM_seal_11 : decode bM_seal 11 = .ok (.iconst (-1), 1) := by decide +kernel
theorem dM_seal_12 : decode bM_seal 12 = .ok (.ireturn, 1) := by decide +kernel
theorem dM_seal_13 : decode bM_seal 13 = .ok (.iload_n 1, 1) := by decide +kernel
theorem dM_seal_14 : decode bM_seal 14 = .ok (.ifCond .ne 6, 3) := by decide +kernel
theorem dM_seal_17 : decode bM_seal 17 = .ok (.bipush (-3), 2) := by decide +kernel
theorem dM_seal_19 : decode bM_seal 19 = .ok (.ireturn, 1) := by decide +kernel
theorem dM_seal_20 : decode bM_seal 20 = .ok (.aload_n 0, 1) := by decide +kernel
theorem dM_seal_21 : decode bM_seal 21 = .ok (.getfield 10, 3) := by decide +kernel
theorem dM_seal_24 : decode bM_seal 24 = .ok (.iload_n 1, 1) := by decide +kernel
theorem dM_seal_25 : decode bM_seal 25 = .ok (.invokevirtual 50, 3) := by decide +kernel
theorem dM_seal_28 : decode bM_seal 28 = .ok (.iload_n 2, 1) := by decide +kernel
theorem dM_seal_29 : decode bM_seal 29 = .ok (.if_icmp .ne 5, 3) := by decide +kernel
theorem dM_seal_32 : decode bM_seal 32 = .ok (.iconst 0, 1) := by decide +kernel
theorem dM_seal_33 : decode bM_seal 33 = .ok (.ireturn, 1) := by decide +kernel
theorem dM_seal_34 : decode bM_seal 34 = .ok (.aload_n 0, 1) := by decide +kernel
theorem dM_seal_35 : decode bM_seal 35 = .ok (.getfield 10, 3) := by decide +kernel
theorem dM_seal_38 : decode bM_seal 38 = .ok (.iload_n 1, 1) := by decide +kernel
theorem dM_seal_39 : decode bM_seal 39 = .ok (.invokevirtual 53, 3) := by decide +kernel
theorem dM_seal_42 : decode bM_seal 42 = .ok (.iconst 1, 1) := by decide +kernel
theorem dM_seal_43 : decode bM_seal 43 = .ok (.ireturn, 1) := by decide +kernel
theorem dM_message_0 : decode bM_message 0 = .ok (.aload_n 0, 1) := by decide +kernel
theorem dM_message_1 : decode bM_message 1 = .ok (.getfield 10, 3) := by decide +kernel
theorem dM_message_4 : decode bM_message 4 = .ok (.iload_n 1, 1) := by decide +kernel
theorem dM_message_5 : decode bM_message 5 = .ok (.invokevirtual 31, 3) := by decide +kernel
theorem dM_message_8 : decode bM_message 8 = .ok (.ifCond .eq 10, 3) := by decide +kernel
theorem dM_message_11 : decode bM_message 11 = .ok (.iload_n 2, 1) := by decide +kernel
theorem dM_message_12 : decode bM_message 12 = .ok (.invokestatic 35, 3) := by decide +kernel
theorem dM_message_15 : decode bM_message 15 = .ok (.ifCond .ne 5, 3) := by decide +kernel
theorem dM_message_18 : decode bM_message 18 = .ok (.iconst (-1), 1) := by decide +kernel
theorem dM_message_19 : decode bM_message 19 = .ok (.ireturn, 1) := by decide +kernel
theorem dM_message_20 : decode bM_message 20 = .ok (.aload_n 0, 1) := by decide +kernel
theorem dM_message_21 : decode bM_message 21 = .ok (.getfield 10, 3) := by decide +kernel
theorem dM_message_24 : decode bM_message 24 = .ok (.iload_n 1, 1) := by decide +kernel
theorem dM_message_25 : decode bM_message 25 = .ok (.iload_n 2, 1) := by decide +kernel
theorem dM_message_26 : decode bM_message 26 = .ok (.invokevirtual 57, 3) := by decide +kernel
theorem dM_message_29 : decode bM_message 29 = .ok (.bipush 90, 2) := by decide +kernel
theorem dM_message_31 : decode bM_message 31 = .ok (.if_icmp .lt 6, 3) := by decide +kernel
theorem dM_message_34 : decode bM_message 34 = .ok (.bipush (-4), 2) := by decide +kernel
theorem dM_message_36 : decode bM_message 36 = .ok (.ireturn, 1) := by decide +kernel
theorem dM_message_37 : decode bM_message 37 = .ok (.aload_n 0, 1) := by decide +kernel
theorem dM_message_38 : decode bM_message 38 = .ok (.getfield 10, 3) := by decide +kernel
theorem dM_message_41 : decode bM_message 41 = .ok (.iload_n 1, 1) := by decide +kernel
theorem dM_message_42 : decode bM_message 42 = .ok (.iload_n 2, 1) := by decide +kernel
theorem dM_message_43 : decode bM_message 43 = .ok (.iconst 1, 1) := by decide +kernel
theorem dM_message_44 : decode bM_message 44 = .ok (.invokevirtual 60, 3) := by decide +kernel
theorem dM_message_47 : decode bM_message 47 = .ok (.aload_n 0, 1) := by decide +kernel
theorem dM_message_48 : decode bM_message 48 = .ok (.getfield 10, 3) := by decide +kernel
theorem dM_message_51 : decode bM_message 51 = .ok (.iload_n 1, 1) := by decide +kernel
theorem dM_message_52 : decode bM_message 52 = .ok (.iload_n 2, 1) := by decide +kernel
theorem dM_message_53 : decode bM_message 53 = .ok (.invokevirtual 57, 3) := by decide +kernel
theorem dM_message_56 : decode bM_message 56 = .ok (.ireturn, 1) := by decide +kernel
theorem dM_ofPlace_0 : decode bM_ofPlace 0 = .ok (.aload_n 0, 1) := by decide +kernel
theorem dM_ofPlace_1 : decode bM_ofPlace 1 = .ok (.getfield 10, 3) := by decide +kernel
theorem dM_ofPlace_4 : decode bM_ofPlace 4 = .ok (.iload_n 1, 1) := by decide +kernel
theorem dM_ofPlace_5 : decode bM_ofPlace 5 = .ok (.invokevirtual 31, 3) := by decide +kernel
theorem dM_ofPlace_8 : decode bM_ofPlace 8 = .ok (.ifCond .ne 5, 3) := by decide +kernel
theorem dM_ofPlace_11 : decode bM_ofPlace 11 = .ok (.iconst (-1), 1) := by decide +kernel
theorem dM_ofPlace_12 : decode bM_ofPlace 12 = .ok (.ireturn, 1) := by decide +kernel
theorem dM_ofPlace_13 : decode bM_ofPlace 13 = .ok (.iload_n 2, 1) := by decide +kernel
theorem dM_ofPlace_14 : decode bM_ofPlace 14 = .ok (.tableswitch 100 0 5 #[38, 47, 56, 73, 82, 91], 38) := by decide +kernel
theorem dM_ofPlace_52 : decode bM_ofPlace 52 = .ok (.aload_n 0, 1) := by decide +kernel
theorem dM_ofPlace_53 : decode bM_ofPlace 53 = .ok (.getfield 10, 3) := by decide +kernel
theorem dM_ofPlace_56 : decode bM_ofPlace 56 = .ok (.iload_n 1, 1) := by decide +kernel
theorem dM_ofPlace_57 : decode bM_ofPlace 57 = .ok (.invokevirtual 64, 3) := by decide +kernel
theorem dM_ofPlace_60 : decode bM_ofPlace 60 = .ok (.ireturn, 1) := by decide +kernel
theorem dM_ofPlace_61 : decode bM_ofPlace 61 = .ok (.aload_n 0, 1) := by decide +kernel
theorem dM_ofPlace_62 : decode bM_ofPlace 62 = .ok (.getfield 10, 3) := by decide +kernel
theorem dM_ofPlace_65 : decode bM_ofPlace 65 = .ok (.iload_n 1, 1) := by decide +kernel
theorem dM_ofPlace_66 : decode bM_ofPlace 66 = .ok (.invokevirtual 68, 3) := by decide +kernel
theorem dM_ofPlace_69 : decode bM_ofPlace 69 = .ok (.ireturn, 1) := by decide +kernel
theorem dM_ofPlace_70 : decode bM_ofPlace 70 = .ok (.aload_n 0, 1) := by decide +kernel
theorem dM_ofPlace_71 : decode bM_ofPlace 71 = .ok (.getfield 10, 3) := by decide +kernel
theorem dM_ofPlace_74 : decode bM_ofPlace 74 = .ok (.iload_n 1, 1) := by decide +kernel
theorem dM_ofPlace_75 : decode bM_ofPlace 75 = .ok (.invokevirtual 50, 3) := by decide +kernel
theorem dM_ofPlace_78 : decode bM_ofPlace 78 = .ok (.ifCond .eq 7, 3) := by decide +kernel
theorem dM_ofPlace_81 : decode bM_ofPlace 81 = .ok (.iconst 1, 1) := by decide +kernel
theorem dM_ofPlace_82 : decode bM_ofPlace 82 = .ok (.goto 4, 3) := by decide +kernel
theorem dM_ofPlace_85 : decode bM_ofPlace 85 = .ok (.iconst 0, 1) := by decide +kernel
theorem dM_ofPlace_86 : decode bM_ofPlace 86 = .ok (.ireturn, 1) := by decide +kernel
theorem dM_ofPlace_87 : decode bM_ofPlace 87 = .ok (.aload_n 0, 1) := by decide +kernel
theorem dM_ofPlace_88 : decode bM_ofPlace 88 = .ok (.getfield 10, 3) := by decide +kernel
theorem dM_ofPlace_91 : decode bM_ofPlace 91 = .ok (.iload_n 1, 1) := by decide +kernel
theorem dM_ofPlace_92 : decode bM_ofPlace 92 = .ok (.invokevirtual 71, 3) := by decide +kernel
theorem dM_ofPlace_95 : decode bM_ofPlace 95 = .ok (.ireturn, 1) := by decide +kernel
theorem dM_ofPlace_96 : decode bM_ofPlace 96 = .ok (.aload_n 0, 1) := by decide +kernel
theorem dM_ofPlace_97 : decode bM_ofPlace 97 = .ok (.getfield 10, 3) := by decide +kernel
theorem dM_ofPlace_100 : decode bM_ofPlace 100 = .ok (.iload_n 1, 1) := by decide +kernel
theorem dM_ofPlace_101 : decode bM_ofPlace 101 = .ok (.invokevirtual 74, 3) := by decide +kernel
theorem dM_ofPlace_104 : decode bM_ofPlace 104 = .ok (.ireturn, 1) := by decide +kernel
theorem dM_ofPlace_105 : decode bM_ofPlace 105 = .ok (.aload_n 0, 1) := by decide +kernel
theorem dM_ofPlace_106 : decode bM_ofPlace 106 = .ok (.getfield 10, 3) := by decide +kernel
theorem dM_ofPlace_109 : decode bM_ofPlace 109 = .ok (.iload_n 1, 1) := by decide +kernel
theorem dM_ofPlace_110 : decode bM_ofPlace 110 = .ok (.invokevirtual 77, 3) := by decide +kernel
theorem dM_ofPlace_113 : decode bM_ofPlace 113 = .ok (.ireturn, 1) := by decide +kernel
theorem dM_ofPlace_114 : decode bM_ofPlace 114 = .ok (.iload_n 2, 1) := by decide +kernel
theorem dM_ofPlace_115 : decode bM_ofPlace 115 = .ok (.bipush 10, 2) := by decide +kernel
theorem dM_ofPlace_117 : decode bM_ofPlace 117 = .ok (.if_icmp .lt 24, 3) := by decide +kernel
theorem dM_ofPlace_120 : decode bM_ofPlace 120 = .ok (.iload_n 2, 1) := by decide +kernel
theorem dM_ofPlace_121 : decode bM_ofPlace 121 = .ok (.bipush 16, 2) := by decide +kernel
theorem dM_ofPlace_123 : decode bM_ofPlace 123 = .ok (.if_icmp .ge 18, 3) := by decide +kernel
theorem dM_ofPlace_126 : decode bM_ofPlace 126 = .ok (.aload_n 0, 1) := by decide +kernel
theorem dM_ofPlace_127 : decode bM_ofPlace 127 = .ok (.getfield 10, 3) := by decide +kernel
theorem dM_ofPlace_130 : decode bM_ofPlace 130 = .ok (.iload_n 1, 1) := by decide +kernel
theorem dM_ofPlace_131 : decode bM_ofPlace 131 = .ok (.iload_n 2, 1) := by decide +kernel
theorem dM_ofPlace_132 : decode bM_ofPlace 132 = .ok (.bipush 10, 2) := by decide +kernel
theorem dM_ofPlace_134 : decode bM_ofPlace 134 = .ok (.isub, 1) := by decide +kernel
theorem dM_ofPlace_135 : decode bM_ofPlace 135 = .ok (.invokevirtual 57, 3) := by decide +kernel
theorem dM_ofPlace_138 : decode bM_ofPlace 138 = .ok (.goto 5, 3) := by decide +kernel
theorem dM_ofPlace_141 : decode bM_ofPlace 141 = .ok (.bipush (-2), 2) := by decide +kernel
theorem dM_ofPlace_143 : decode bM_ofPlace 143 = .ok (.ireturn, 1) := by decide +kernel
theorem dM_ofThread_0 : decode bM_ofThread 0 = .ok (.aload_n 0, 1) := by decide +kernel
theorem dM_ofThread_1 : decode bM_ofThread 1 = .ok (.getfield 10, 3) := by decide +kernel
theorem dM_ofThread_4 : decode bM_ofThread 4 = .ok (.iload_n 1, 1) := by decide +kernel
theorem dM_ofThread_5 : decode bM_ofThread 5 = .ok (.invokevirtual 80, 3) := by decide +kernel
theorem dM_ofThread_8 : decode bM_ofThread 8 = .ok (.ifCond .ne 5, 3) := by decide +kernel
theorem dM_ofThread_11 : decode bM_ofThread 11 = .ok (.iconst (-1), 1) := by decide +kernel
theorem dM_ofThread_12 : decode bM_ofThread 12 = .ok (.ireturn, 1) := by decide +kernel
theorem dM_ofThread_13 : decode bM_ofThread 13 = .ok (.iload_n 2, 1) := by decide +kernel
theorem dM_ofThread_14 : decode bM_ofThread 14 = .ok (.tableswitch 103 0 4 #[34, 43, 52, 61, 70], 34) := by decide +kernel
theorem dM_ofThread_48 : decode bM_ofThread 48 = .ok (.aload_n 0, 1) := by decide +kernel
theorem dM_ofThread_49 : decode bM_ofThread 49 = .ok (.getfield 10, 3) := by decide +kernel
theorem dM_ofThread_52 : decode bM_ofThread 52 = .ok (.iload_n 1, 1) := by decide +kernel
theorem dM_ofThread_53 : decode bM_ofThread 53 = .ok (.invokevirtual 83, 3) := by decide +kernel
theorem dM_ofThread_56 : decode bM_ofThread 56 = .ok (.ireturn, 1) := by decide +kernel
theorem dM_ofThread_57 : decode bM_ofThread 57 = .ok (.aload_n 0, 1) := by decide +kernel
theorem dM_ofThread_58 : decode bM_ofThread 58 = .ok (.getfield 10, 3) := by decide +kernel
theorem dM_ofThread_61 : decode bM_ofThread 61 = .ok (.iload_n 1, 1) := by decide +kernel
theorem dM_ofThread_62 : decode bM_ofThread 62 = .ok (.invokevirtual 86, 3) := by decide +kernel
theorem dM_ofThread_65 : decode bM_ofThread 65 = .ok (.ireturn, 1) := by decide +kernel
theorem dM_ofThread_66 : decode bM_ofThread 66 = .ok (.aload_n 0, 1) := by decide +kernel
theorem dM_ofThread_67 : decode bM_ofThread 67 = .ok (.getfield 10, 3) := by decide +kernel
theorem dM_ofThread_70 : decode bM_ofThread 70 = .ok (.iload_n 1, 1) := by decide +kernel
theorem dM_ofThread_71 : decode bM_ofThread 71 = .ok (.invokevirtual 89, 3) := by decide +kernel
theorem dM_ofThread_74 : decode bM_ofThread 74 = .ok (.ireturn, 1) := by decide +kernel
theorem dM_ofThread_75 : decode bM_ofThread 75 = .ok (.aload_n 0, 1) := by decide +kernel
theorem dM_ofThread_76 : decode bM_ofThread 76 = .ok (.getfield 10, 3) := by decide +kernel
theorem dM_ofThread_79 : decode bM_ofThread 79 = .ok (.iload_n 1, 1) := by decide +kernel
theorem dM_ofThread_80 : decode bM_ofThread 80 = .ok (.invokevirtual 92, 3) := by decide +kernel
theorem dM_ofThread_83 : decode bM_ofThread 83 = .ok (.ireturn, 1) := by decide +kernel
theorem dM_ofThread_84 : decode bM_ofThread 84 = .ok (.aload_n 0, 1) := by decide +kernel
theorem dM_ofThread_85 : decode bM_ofThread 85 = .ok (.getfield 10, 3) := by decide +kernel
theorem dM_ofThread_88 : decode bM_ofThread 88 = .ok (.iload_n 1, 1) := by decide +kernel
theorem dM_ofThread_89 : decode bM_ofThread 89 = .ok (.invokevirtual 95, 3) := by decide +kernel
theorem dM_ofThread_92 : decode bM_ofThread 92 = .ok (.ifCond .eq 8, 3) := by decide +kernel
theorem dM_ofThread_95 : decode bM_ofThread 95 = .ok (.bipush (-9), 2) := by decide +kernel
theorem dM_ofThread_97 : decode bM_ofThread 97 = .ok (.goto 19, 3) := by decide +kernel
theorem dM_ofThread_100 : decode bM_ofThread 100 = .ok (.aload_n 0, 1) := by decide +kernel
theorem dM_ofThread_101 : decode bM_ofThread 101 = .ok (.getfield 10, 3) := by decide +kernel
theorem dM_ofThread_104 : decode bM_ofThread 104 = .ok (.iload_n 1, 1) := by decide +kernel
theorem dM_ofThread_105 : decode bM_ofThread 105 = .ok (.aload_n 0, 1) := by decide +kernel
theorem dM_ofThread_106 : decode bM_ofThread 106 = .ok (.getfield 10, 3) := by decide +kernel
theorem dM_ofThread_109 : decode bM_ofThread 109 = .ok (.iload_n 1, 1) := by decide +kernel
theorem dM_ofThread_110 : decode bM_ofThread 110 = .ok (.invokevirtual 86, 3) := by decide +kernel
theorem dM_ofThread_113 : decode bM_ofThread 113 = .ok (.invokevirtual 98, 3) := by decide +kernel
theorem dM_ofThread_116 : decode bM_ofThread 116 = .ok (.ireturn, 1) := by decide +kernel
theorem dM_ofThread_117 : decode bM_ofThread 117 = .ok (.bipush (-2), 2) := by decide +kernel
theorem dM_ofThread_119 : decode bM_ofThread 119 = .ok (.ireturn, 1) := by decide +kernel
theorem dM_within_0 : decode bM_within 0 = .ok (.aload_n 0, 1) := by decide +kernel
theorem dM_within_1 : decode bM_within 1 = .ok (.getfield 10, 3) := by decide +kernel
theorem dM_within_4 : decode bM_within 4 = .ok (.iload_n 1, 1) := by decide +kernel
theorem dM_within_5 : decode bM_within 5 = .ok (.invokevirtual 31, 3) := by decide +kernel
theorem dM_within_8 : decode bM_within 8 = .ok (.ifCond .eq 14, 3) := by decide +kernel
theorem dM_within_11 : decode bM_within 11 = .ok (.aload_n 0, 1) := by decide +kernel
theorem dM_within_12 : decode bM_within 12 = .ok (.getfield 10, 3) := by decide +kernel
theorem dM_within_15 : decode bM_within 15 = .ok (.iload_n 2, 1) := by decide +kernel
theorem dM_within_16 : decode bM_within 16 = .ok (.invokevirtual 31, 3) := by decide +kernel
theorem dM_within_19 : decode bM_within 19 = .ok (.ifCond .ne 5, 3) := by decide +kernel
theorem dM_within_22 : decode bM_within 22 = .ok (.iconst (-1), 1) := by decide +kernel
theorem dM_within_23 : decode bM_within 23 = .ok (.ireturn, 1) := by decide +kernel
theorem dM_within_24 : decode bM_within 24 = .ok (.aload_n 0, 1) := by decide +kernel
theorem dM_within_25 : decode bM_within 25 = .ok (.getfield 10, 3) := by decide +kernel
theorem dM_within_28 : decode bM_within 28 = .ok (.iload_n 1, 1) := by decide +kernel
theorem dM_within_29 : decode bM_within 29 = .ok (.iload_n 2, 1) := by decide +kernel
theorem dM_within_30 : decode bM_within 30 = .ok (.invokevirtual 101, 3) := by decide +kernel
theorem dM_within_33 : decode bM_within 33 = .ok (.ifCond .eq 7, 3) := by decide +kernel
theorem dM_within_36 : decode bM_within 36 = .ok (.iconst 1, 1) := by decide +kernel
theorem dM_within_37 : decode bM_within 37 = .ok (.goto 4, 3) := by decide +kernel
theorem dM_within_40 : decode bM_within 40 = .ok (.iconst 0, 1) := by decide +kernel
theorem dM_within_41 : decode bM_within 41 = .ok (.ireturn, 1) := by decide +kernel
theorem dM_can_0 : decode bM_can 0 = .ok (.aload_n 0, 1) := by decide +kernel
theorem dM_can_1 : decode bM_can 1 = .ok (.getfield 10, 3) := by decide +kernel
theorem dM_can_4 : decode bM_can 4 = .ok (.invokevirtual 105, 3) := by decide +kernel
theorem dM_can_7 : decode bM_can 7 = .ok (.ireturn, 1) := by decide +kernel
theorem dM_act_0 : decode bM_act 0 = .ok (.aload_n 0, 1) := by decide +kernel
theorem dM_act_1 : decode bM_act 1 = .ok (.getfield 10, 3) := by decide +kernel
theorem dM_act_4 : decode bM_act 4 = .ok (.iload_n 1, 1) := by decide +kernel
theorem dM_act_5 : decode bM_act 5 = .ok (.invokevirtual 80, 3) := by decide +kernel
theorem dM_act_8 : decode bM_act 8 = .ok (.ifCond .ne 5, 3) := by decide +kernel
theorem dM_act_11 : decode bM_act 11 = .ok (.iconst (-1), 1) := by decide +kernel
theorem dM_act_12 : decode bM_act 12 = .ok (.ireturn, 1) := by decide +kernel
theorem dM_act_13 : decode bM_act 13 = .ok (.aload_n 0, 1) := by decide +kernel
theorem dM_act_14 : decode bM_act 14 = .ok (.getfield 10, 3) := by decide +kernel
theorem dM_act_17 : decode bM_act 17 = .ok (.iload_n 1, 1) := by decide +kernel
theorem dM_act_18 : decode bM_act 18 = .ok (.invokevirtual 109, 3) := by decide +kernel
theorem dM_act_21 : decode bM_act 21 = .ok (.istore_n 2, 1) := by decide +kernel
theorem dM_act_22 : decode bM_act 22 = .ok (.iload_n 2, 1) := by decide +kernel
theorem dM_act_23 : decode bM_act 23 = .ok (.bipush (-9), 2) := by decide +kernel
theorem dM_act_25 : decode bM_act 25 = .ok (.if_icmp .ne 8, 3) := by decide +kernel
theorem dM_act_28 : decode bM_act 28 = .ok (.bipush (-3), 2) := by decide +kernel
theorem dM_act_30 : decode bM_act 30 = .ok (.goto 4, 3) := by decide +kernel
theorem dM_act_33 : decode bM_act 33 = .ok (.iload_n 2, 1) := by decide +kernel
theorem dM_act_34 : decode bM_act 34 = .ok (.ireturn, 1) := by decide +kernel
theorem dM_rounds_0 : decode bM_rounds 0 = .ok (.iload_n 1, 1) := by decide +kernel
theorem dM_rounds_1 : decode bM_rounds 1 = .ok (.iconst 1, 1) := by decide +kernel
theorem dM_rounds_2 : decode bM_rounds 2 = .ok (.if_icmp .lt 9, 3) := by decide +kernel
theorem dM_rounds_5 : decode bM_rounds 5 = .ok (.iload_n 1, 1) := by decide +kernel
theorem dM_rounds_6 : decode bM_rounds 6 = .ok (.bipush 50, 2) := by decide +kernel
theorem dM_rounds_8 : decode bM_rounds 8 = .ok (.if_icmp .le 6, 3) := by decide +kernel
theorem dM_rounds_11 : decode bM_rounds 11 = .ok (.bipush (-2), 2) := by decide +kernel
theorem dM_rounds_13 : decode bM_rounds 13 = .ok (.ireturn, 1) := by decide +kernel
theorem dM_rounds_14 : decode bM_rounds 14 = .ok (.iconst 0, 1) := by decide +kernel
theorem dM_rounds_15 : decode bM_rounds 15 = .ok (.istore_n 2, 1) := by decide +kernel
theorem dM_rounds_16 : decode bM_rounds 16 = .ok (.iconst 0, 1) := by decide +kernel
theorem dM_rounds_17 : decode bM_rounds 17 = .ok (.istore_n 3, 1) := by decide +kernel
theorem dM_rounds_18 : decode bM_rounds 18 = .ok (.iload_n 3, 1) := by decide +kernel
theorem dM_rounds_19 : decode bM_rounds 19 = .ok (.iload_n 1, 1) := by decide +kernel
theorem dM_rounds_20 : decode bM_rounds 20 = .ok (.if_icmp .ge 31, 3) := by decide +kernel
theorem dM_rounds_23 : decode bM_rounds 23 = .ok (.aload_n 0, 1) := by decide +kernel
theorem dM_rounds_24 : decode bM_rounds 24 = .ok (.getfield 10, 3) := by decide +kernel
theorem dM_rounds_27 : decode bM_rounds 27 = .ok (.invokevirtual 112, 3) := by decide +kernel
theorem dM_rounds_30 : decode bM_rounds 30 = .ok (.istore 4, 2) := by decide +kernel
theorem dM_rounds_32 : decode bM_rounds 32 = .ok (.iload 4, 2) := by decide +kernel
theorem dM_rounds_34 : decode bM_rounds 34 = .ok (.ifCond .ne 6, 3) := by decide +kernel
theorem dM_rounds_37 : decode bM_rounds 37 = .ok (.goto 14, 3) := by decide +kernel
theorem dM_rounds_40 : decode bM_rounds 40 = .ok (.iload_n 2, 1) := by decide +kernel
theorem dM_rounds_41 : decode bM_rounds 41 = .ok (.iload 4, 2) := by decide +kernel
theorem dM_rounds_43 : decode bM_rounds 43 = .ok (.iadd, 1) := by decide +kernel
theorem dM_rounds_44 : decode bM_rounds 44 = .ok (.istore_n 2, 1) := by decide +kernel
theorem dM_rounds_45 : decode bM_rounds 45 = .ok (.iinc 3 1, 3) := by decide +kernel
theorem dM_rounds_48 : decode bM_rounds 48 = .ok (.goto (-30), 3) := by decide +kernel
theorem dM_rounds_51 : decode bM_rounds 51 = .ok (.iload_n 2, 1) := by decide +kernel
theorem dM_rounds_52 : decode bM_rounds 52 = .ok (.ireturn, 1) := by decide +kernel
theorem dM_countRows_0 : decode bM_countRows 0 = .ok (.iload_n 2, 1) := by decide +kernel
theorem dM_countRows_1 : decode bM_countRows 1 = .ok (.iload_n 3, 1) := by decide +kernel
theorem dM_countRows_2 : decode bM_countRows 2 = .ok (.if_icmp .lt 5, 3) := by decide +kernel
theorem dM_countRows_5 : decode bM_countRows 5 = .ok (.iconst 1, 1) := by decide +kernel
theorem dM_countRows_6 : decode bM_countRows 6 = .ok (.ireturn, 1) := by decide +kernel
theorem dM_countRows_7 : decode bM_countRows 7 = .ok (.iload_n 2, 1) := by decide +kernel
theorem dM_countRows_8 : decode bM_countRows 8 = .ok (.iconst 1, 1) := by decide +kernel
theorem dM_countRows_9 : decode bM_countRows 9 = .ok (.iadd, 1) := by decide +kernel
theorem dM_countRows_10 : decode bM_countRows 10 = .ok (.iload_n 3, 1) := by decide +kernel
theorem dM_countRows_11 : decode bM_countRows 11 = .ok (.if_icmp .eq 12, 3) := by decide +kernel
theorem dM_countRows_14 : decode bM_countRows 14 = .ok (.iload_n 2, 1) := by decide +kernel
theorem dM_countRows_15 : decode bM_countRows 15 = .ok (.aload_n 0, 1) := by decide +kernel
theorem dM_countRows_16 : decode bM_countRows 16 = .ok (.getfield 23, 3) := by decide +kernel
theorem dM_countRows_19 : decode bM_countRows 19 = .ok (.arraylength, 1) := by decide +kernel
theorem dM_countRows_20 : decode bM_countRows 20 = .ok (.if_icmp .lt 11, 3) := by decide +kernel
theorem dM_countRows_23 : decode bM_countRows 23 = .ok (.aload_n 1, 1) := by decide +kernel
theorem dM_countRows_24 : decode bM_countRows 24 = .ok (.invokevirtual 105, 3) := by decide +kernel
theorem dM_countRows_27 : decode bM_countRows 27 = .ok (.invokestatic 151, 3) := by decide +kernel
theorem dM_countRows_30 : decode bM_countRows 30 = .ok (.ireturn, 1) := by decide +kernel
theorem dM_countRows_31 : decode bM_countRows 31 = .ok (.aload_n 0, 1) := by decide +kernel
theorem dM_countRows_32 : decode bM_countRows 32 = .ok (.getfield 23, 3) := by decide +kernel
theorem dM_countRows_35 : decode bM_countRows 35 = .ok (.iload_n 2, 1) := by decide +kernel
theorem dM_countRows_36 : decode bM_countRows 36 = .ok (.aaload, 1) := by decide +kernel
theorem dM_countRows_37 : decode bM_countRows 37 = .ok (.astore 4, 2) := by decide +kernel
theorem dM_countRows_39 : decode bM_countRows 39 = .ok (.iconst 0, 1) := by decide +kernel
theorem dM_countRows_40 : decode bM_countRows 40 = .ok (.istore 5, 2) := by decide +kernel
theorem dM_countRows_42 : decode bM_countRows 42 = .ok (.iconst 0, 1) := by decide +kernel
theorem dM_countRows_43 : decode bM_countRows 43 = .ok (.istore 6, 2) := by decide +kernel
theorem dM_countRows_45 : decode bM_countRows 45 = .ok (.iload 6, 2) := by decide +kernel
theorem dM_countRows_47 : decode bM_countRows 47 = .ok (.aload_n 1, 1) := by decide +kernel
theorem dM_countRows_48 : decode bM_countRows 48 = .ok (.invokevirtual 139, 3) := by decide +kernel
theorem dM_countRows_51 : decode bM_countRows 51 = .ok (.if_icmp .ge 49, 3) := by decide +kernel
theorem dM_countRows_54 : decode bM_countRows 54 = .ok (.aload_n 1, 1) := by decide +kernel
theorem dM_countRows_55 : decode bM_countRows 55 = .ok (.iload 6, 2) := by decide +kernel
theorem dM_countRows_57 : decode bM_countRows 57 = .ok (.invokevirtual 156, 3) := by decide +kernel
theorem dM_countRows_60 : decode bM_countRows 60 = .ok (.bipush (-9), 2) := by decide +kernel
theorem dM_countRows_62 : decode bM_countRows 62 = .ok (.if_icmp .eq 32, 3) := by decide +kernel
theorem dM_countRows_65 : decode bM_countRows 65 = .ok (.aload 4, 2) := by decide +kernel
theorem dM_countRows_67 : decode bM_countRows 67 = .ok (.aload_n 1, 1) := by decide +kernel
theorem dM_countRows_68 : decode bM_countRows 68 = .ok (.invokevirtual 132, 3) := by decide +kernel
theorem dM_countRows_71 : decode bM_countRows 71 = .ok (.aload 4, 2) := by decide +kernel
theorem dM_countRows_73 : decode bM_countRows 73 = .ok (.iload 6, 2) := by decide +kernel
theorem dM_countRows_75 : decode bM_countRows 75 = .ok (.invokevirtual 109, 3) := by decide +kernel
theorem dM_countRows_78 : decode bM_countRows 78 = .ok (.pop, 1) := by decide +kernel
theorem dM_countRows_79 : decode bM_countRows 79 = .ok (.iload 5, 2) := by decide +kernel
theorem dM_countRows_81 : decode bM_countRows 81 = .ok (.aload_n 0, 1) := by decide +kernel
theorem dM_countRows_82 : decode bM_countRows 82 = .ok (.aload 4, 2) := by decide +kernel
theorem dM_countRows_84 : decode bM_countRows 84 = .ok (.iload_n 2, 1) := by decide +kernel
theorem dM_countRows_85 : decode bM_countRows 85 = .ok (.iconst 1, 1) := by decide +kernel
theorem dM_countRows_86 : decode bM_countRows 86 = .ok (.iadd, 1) := by decide +kernel
theorem dM_countRows_87 : decode bM_countRows 87 = .ok (.iload_n 3, 1) := by decide +kernel
theorem dM_countRows_88 : decode bM_countRows 88 = .ok (.invokevirtual 115, 3) := by decide +kernel
theorem dM_countRows_91 : decode bM_countRows 91 = .ok (.iadd, 1) := by decide +kernel
theorem dM_countRows_92 : decode bM_countRows 92 = .ok (.istore 5, 2) := by decide +kernel
theorem dM_countRows_94 : decode bM_countRows 94 = .ok (.iinc 6 1, 3) := by decide +kernel
theorem dM_countRows_97 : decode bM_countRows 97 = .ok (.goto (-52), 3) := by decide +kernel
theorem dM_countRows_100 : decode bM_countRows 100 = .ok (.iload 5, 2) := by decide +kernel
theorem dM_countRows_102 : decode bM_countRows 102 = .ok (.ireturn, 1) := by decide +kernel
theorem dM_rows_0 : decode bM_rows 0 = .ok (.iload_n 1, 1) := by decide +kernel
theorem dM_rows_1 : decode bM_rows 1 = .ok (.ifCond .lt 8, 3) := by decide +kernel
theorem dM_rows_4 : decode bM_rows 4 = .ok (.iload_n 1, 1) := by decide +kernel
theorem dM_rows_5 : decode bM_rows 5 = .ok (.iconst 3, 1) := by decide +kernel
theorem dM_rows_6 : decode bM_rows 6 = .ok (.if_icmp .le 6, 3) := by decide +kernel
theorem dM_rows_9 : decode bM_rows 9 = .ok (.bipush (-2), 2) := by decide +kernel
theorem dM_rows_11 : decode bM_rows 11 = .ok (.ireturn, 1) := by decide +kernel
theorem dM_rows_12 : decode bM_rows 12 = .ok (.aload_n 0, 1) := by decide +kernel
theorem dM_rows_13 : decode bM_rows 13 = .ok (.aload_n 0, 1) := by decide +kernel
theorem dM_rows_14 : decode bM_rows 14 = .ok (.getfield 10, 3) := by decide +kernel
theorem dM_rows_17 : decode bM_rows 17 = .ok (.iconst 0, 1) := by decide +kernel
theorem dM_rows_18 : decode bM_rows 18 = .ok (.iload_n 1, 1) := by decide +kernel
theorem dM_rows_19 : decode bM_rows 19 = .ok (.invokevirtual 115, 3) := by decide +kernel
theorem dM_rows_22 : decode bM_rows 22 = .ok (.ireturn, 1) := by decide +kernel
theorem wq_317 : Cond.methodLink rW 50 arraycopyName ∈ wT := wT_in 317 rfl rfl
theorem wq_319 : Cond.native arraycopyName ∈ wT := wT_in 319 rfl rfl
theorem wq_318 : Cond.static arraycopyName ∈ wT := wT_in 318 rfl rfl
theorem wq_41 : Cond.initialized "java/lang/System" ∈ wT := wT_in 41 rfl rfl
theorem wq_96 : Cond.fieldLink rM 10 rM "now" "LMovingPlaces$World;" ∈ wT := wT_in 96 rfl rfl
theorem wq_116 : Cond.methodLink rM 31 yW_isPlace ∈ wT := wT_in 116 rfl rfl
theorem kV_M_31 : mp_V rM 31 yW_isPlace bW_isPlace 2 (some .boolean) 1 := ⟨wq_116, wq_117, wq_118, wq_38, wq_119, ⟨by decide, by decide, by decide +kernel⟩⟩
theorem wq_123 : Cond.methodLink rM 38 yW_addPlace ∈ wT := wT_in 123 rfl rfl
theorem wq_124 : Cond.instanceMethod yW_addPlace ∈ wT := wT_in 124 rfl rfl
theorem wq_125 : Cond.selects rW yW_addPlace yW_addPlace ∈ wT := wT_in 125 rfl rfl
theorem wq_126 : Cond.code yW_addPlace bW_addPlace 5 (some .int) ∈ wT := wT_in 126 rfl rfl
theorem kV_M_38 : mp_V rM 38 yW_addPlace bW_addPlace 5 (some .int) 2 := ⟨wq_123, wq_124, wq_125, wq_38, wq_126, ⟨by decide, by decide, by decide +kernel⟩⟩
theorem wq_131 : Cond.methodLink rM 42 yM_countActs ∈ wT := wT_in 131 rfl rfl
theorem wq_132 : Cond.static yM_countActs ∈ wT := wT_in 132 rfl rfl
theorem wq_133 : Cond.code yM_countActs bM_countActs 5 (some .int) ∈ wT := wT_in 133 rfl rfl
theorem kT_M_42 : mp_T rM 42 yM_countActs bM_countActs 5 (some .int) 1 := ⟨wq_131, wq_132, wq_37, wq_133, ⟨by decide, by decide, by decide +kernel⟩⟩
theorem wq_138 : Cond.methodLink rM 46 yW_addThread ∈ wT := wT_in 138 rfl rfl
theorem wq_139 : Cond.instanceMethod yW_addThread ∈ wT := wT_in 139 rfl rfl
theorem wq_140 : Cond.selects rW yW_addThread yW_addThread ∈ wT := wT_in 140 rfl rfl
theorem wq_141 : Cond.code yW_addThread bW_addThread 6 (some .int) ∈ wT := wT_in 141 rfl rfl
theorem kV_M_46 : mp_V rM 46 yW_addThread bW_addThread 6 (some .int) 3 := ⟨wq_138, wq_139, wq_140, wq_38, wq_141, ⟨by decide, by decide, by decide +kernel⟩⟩
theorem wq_146 : Cond.methodLink rM 50 yW_isSealed ∈ wT := wT_in 146 rfl rfl
theorem kV_M_50 : mp_V rM 50 yW_isSealed bW_isSealed 2 (some .boolean) 1 := ⟨wq_146, wq_147, wq_148, wq_38, wq_149, ⟨by decide, by decide, by decide +kernel⟩⟩
theorem wq_151 : Cond.methodLink rM 53 yW_turnSeal ∈ wT := wT_in 151 rfl rfl
theorem wq_152 : Cond.instanceMethod yW_turnSeal ∈ wT := wT_in 152 rfl rfl
theorem wq_153 : Cond.selects rW yW_turnSeal yW_turnSeal ∈ wT := wT_in 153 rfl rfl
theorem wq_154 : Cond.code yW_turnSeal bW_turnSeal 2 none ∈ wT := wT_in 154 rfl rfl
theorem kV_M_53 : mp_V rM 53 yW_turnSeal bW_turnSeal 2 none 1 := ⟨wq_151, wq_152, wq_153, wq_38, wq_154, ⟨by decide, by decide, by decide +kernel⟩⟩
theorem wq_159 : Cond.methodLink rM 57 yW_messagesOf ∈ wT := wT_in 159 rfl rfl
theorem kV_M_57 : mp_V rM 57 yW_messagesOf bW_messagesOf 3 (some .int) 2 := ⟨wq_159, wq_160, wq_161, wq_38, wq_162, ⟨by decide, by decide, by decide +kernel⟩⟩
theorem wq_164 : Cond.methodLink rM 60 yW_addMessages ∈ wT := wT_in 164 rfl rfl
theorem kV_M_60 : mp_V rM 60 yW_addMessages bW_addMessages 4 none 3 := ⟨wq_164, wq_165, wq_166, wq_38, wq_167, ⟨by decide, by decide, by decide +kernel⟩⟩
theorem wq_172 : Cond.methodLink rM 64 yW_nameOf ∈ wT := wT_in 172 rfl rfl
theorem kV_M_64 : mp_V rM 64 yW_nameOf bW_nameOf 2 (some .int) 1 := ⟨wq_172, wq_173, wq_174, wq_38, wq_175, ⟨by decide, by decide, by decide +kernel⟩⟩
theorem wq_176 : Cond.methodLink rM 68 yW_placeAround ∈ wT := wT_in 176 rfl rfl
theorem kV_M_68 : mp_V rM 68 yW_placeAround bW_placeAround 2 (some .int) 1 := ⟨wq_176, wq_177, wq_178, wq_38, wq_179, ⟨by decide, by decide, by decide +kernel⟩⟩
theorem wq_180 : Cond.methodLink rM 71 yW_placesIn ∈ wT := wT_in 180 rfl rfl
theorem wq_181 : Cond.instanceMethod yW_placesIn ∈ wT := wT_in 181 rfl rfl
theorem wq_182 : Cond.selects rW yW_placesIn yW_placesIn ∈ wT := wT_in 182 rfl rfl
theorem wq_183 : Cond.code yW_placesIn bW_placesIn 4 (some .int) ∈ wT := wT_in 183 rfl rfl
theorem kV_M_71 : mp_V rM 71 yW_placesIn bW_placesIn 4 (some .int) 1 := ⟨wq_180, wq_181, wq_182, wq_38, wq_183, ⟨by decide, by decide, by decide +kernel⟩⟩
theorem wq_184 : Cond.methodLink rM 74 yW_threadsIn ∈ wT := wT_in 184 rfl rfl
theorem wq_185 : Cond.instanceMethod yW_threadsIn ∈ wT := wT_in 185 rfl rfl
theorem wq_186 : Cond.selects rW yW_threadsIn yW_threadsIn ∈ wT := wT_in 186 rfl rfl
theorem wq_187 : Cond.code yW_threadsIn bW_threadsIn 4 (some .int) ∈ wT := wT_in 187 rfl rfl
theorem kV_M_74 : mp_V rM 74 yW_threadsIn bW_threadsIn 4 (some .int) 1 := ⟨wq_184, wq_185, wq_186, wq_38, wq_187, ⟨by decide, by decide, by decide +kernel⟩⟩
theorem wq_188 : Cond.methodLink rM 77 yW_depthOf ∈ wT := wT_in 188 rfl rfl
theorem wq_189 : Cond.instanceMethod yW_depthOf ∈ wT := wT_in 189 rfl rfl
theorem wq_190 : Cond.selects rW yW_depthOf yW_depthOf ∈ wT := wT_in 190 rfl rfl
theorem wq_191 : Cond.code yW_depthOf bW_depthOf 4 (some .int) ∈ wT := wT_in 191 rfl rfl
theorem kV_M_77 : mp_V rM 77 yW_depthOf bW_depthOf 4 (some .int) 1 := ⟨wq_188, wq_189, wq_190, wq_38, wq_191, ⟨by decide, by decide, by decide +kernel⟩⟩
theorem wq_197 : Cond.methodLink rM 80 yW_isThread ∈ wT := wT_in 197 rfl rfl
theorem kV_M_80 : mp_V rM 80 yW_isThread bW_isThread 2 (some .boolean) 1 := ⟨wq_197, wq_198, wq_199, wq_38, wq_200, ⟨by decide, by decide, by decide +kernel⟩⟩
theorem wq_201 : Cond.methodLink rM 83 yW_placeOfThread ∈ wT := wT_in 201 rfl rfl
theorem wq_202 : Cond.instanceMethod yW_placeOfThread ∈ wT := wT_in 202 rfl rfl
theorem wq_203 : Cond.selects rW yW_placeOfThread yW_placeOfThread ∈ wT := wT_in 203 rfl rfl
theorem wq_204 : Cond.code yW_placeOfThread bW_placeOfThread 2 (some .int) ∈ wT := wT_in 204 rfl rfl
theorem kV_M_83 : mp_V rM 83 yW_placeOfThread bW_placeOfThread 2 (some .int) 1 := ⟨wq_201, wq_202, wq_203, wq_38, wq_204, ⟨by decide, by decide, by decide +kernel⟩⟩
theorem wq_206 : Cond.methodLink rM 86 yW_actsDone ∈ wT := wT_in 206 rfl rfl
theorem kV_M_86 : mp_V rM 86 yW_actsDone bW_actsDone 2 (some .int) 1 := ⟨wq_206, wq_207, wq_208, wq_38, wq_209, ⟨by decide, by decide, by decide +kernel⟩⟩
theorem wq_210 : Cond.methodLink rM 89 yW_actsInAll ∈ wT := wT_in 210 rfl rfl
theorem kV_M_89 : mp_V rM 89 yW_actsInAll bW_actsInAll 2 (some .int) 1 := ⟨wq_210, wq_211, wq_212, wq_38, wq_213, ⟨by decide, by decide, by decide +kernel⟩⟩
theorem wq_214 : Cond.methodLink rM 92 yW_heardBy ∈ wT := wT_in 214 rfl rfl
theorem kV_M_92 : mp_V rM 92 yW_heardBy bW_heardBy 2 (some .int) 1 := ⟨wq_214, wq_215, wq_216, wq_38, wq_217, ⟨by decide, by decide, by decide +kernel⟩⟩
theorem wq_218 : Cond.methodLink rM 95 yW_isOver ∈ wT := wT_in 218 rfl rfl
theorem kV_M_95 : mp_V rM 95 yW_isOver bW_isOver 2 (some .boolean) 1 := ⟨wq_218, wq_219, wq_220, wq_38, wq_221, ⟨by decide, by decide, by decide +kernel⟩⟩
theorem wq_224 : Cond.methodLink rM 98 yW_actOf ∈ wT := wT_in 224 rfl rfl
theorem kV_M_98 : mp_V rM 98 yW_actOf bW_actOf 4 (some .int) 2 := ⟨wq_224, wq_225, wq_226, wq_38, wq_227, ⟨by decide, by decide, by decide +kernel⟩⟩
theorem wq_235 : Cond.methodLink rM 101 yW_isWithin ∈ wT := wT_in 235 rfl rfl
theorem wq_236 : Cond.instanceMethod yW_isWithin ∈ wT := wT_in 236 rfl rfl
theorem wq_237 : Cond.selects rW yW_isWithin yW_isWithin ∈ wT := wT_in 237 rfl rfl
theorem wq_238 : Cond.code yW_isWithin bW_isWithin 5 (some .boolean) ∈ wT := wT_in 238 rfl rfl
theorem kV_M_101 : mp_V rM 101 yW_isWithin bW_isWithin 5 (some .boolean) 2 := ⟨wq_235, wq_236, wq_237, wq_38, wq_238, ⟨by decide, by decide, by decide +kernel⟩⟩
theorem wq_243 : Cond.methodLink rM 105 yW_threadsThatCan ∈ wT := wT_in 243 rfl rfl
theorem wq_244 : Cond.instanceMethod yW_threadsThatCan ∈ wT := wT_in 244 rfl rfl
theorem wq_245 : Cond.selects rW yW_threadsThatCan yW_threadsThatCan ∈ wT := wT_in 245 rfl rfl
theorem wq_246 : Cond.code yW_threadsThatCan bW_threadsThatCan 3 (some .int) ∈ wT := wT_in 246 rfl rfl
theorem kV_M_105 : mp_V rM 105 yW_threadsThatCan bW_threadsThatCan 3 (some .int) 0 := ⟨wq_243, wq_244, wq_245, wq_38, wq_246, ⟨by decide, by decide, by decide +kernel⟩⟩
theorem wq_272 : Cond.methodLink rM 109 yW_doNextAct ∈ wT := wT_in 272 rfl rfl
theorem kV_M_109 : mp_V rM 109 yW_doNextAct bW_doNextAct 5 (some .int) 1 := ⟨wq_272, wq_273, wq_274, wq_38, wq_275, ⟨by decide, by decide, by decide +kernel⟩⟩
theorem wq_289 : Cond.methodLink rM 112 yW_doRound ∈ wT := wT_in 289 rfl rfl
theorem wq_290 : Cond.instanceMethod yW_doRound ∈ wT := wT_in 290 rfl rfl
theorem wq_291 : Cond.selects rW yW_doRound yW_doRound ∈ wT := wT_in 291 rfl rfl
theorem wq_292 : Cond.code yW_doRound bW_doRound 3 (some .int) ∈ wT := wT_in 292 rfl rfl
theorem kV_M_112 : mp_V rM 112 yW_doRound bW_doRound 3 (some .int) 0 := ⟨wq_289, wq_290, wq_291, wq_38, wq_292, ⟨by decide, by decide, by decide +kernel⟩⟩
theorem wq_302 : Cond.methodLink rM 151 yJ_bitCount ∈ wT := wT_in 302 rfl rfl
theorem kT_M_151 : mp_T rM 151 yJ_bitCount bJ_bitCount 1 (some .int) 1 := ⟨wq_302, wq_303, wq_40, wq_304, ⟨by decide, by decide, by decide +kernel⟩⟩
theorem wq_99 : Cond.fieldLink rM 23 rM "tries" "[LMovingPlaces$World;" ∈ wT := wT_in 99 rfl rfl
theorem wq_308 : Cond.methodLink rM 139 yW_threadsInAll ∈ wT := wT_in 308 rfl rfl
theorem wq_309 : Cond.instanceMethod yW_threadsInAll ∈ wT := wT_in 309 rfl rfl
theorem wq_310 : Cond.selects rW yW_threadsInAll yW_threadsInAll ∈ wT := wT_in 310 rfl rfl
theorem wq_311 : Cond.code yW_threadsInAll bW_threadsInAll 1 (some .int) ∈ wT := wT_in 311 rfl rfl
theorem kV_M_139 : mp_V rM 139 yW_threadsInAll bW_threadsInAll 1 (some .int) 0 := ⟨wq_308, wq_309, wq_310, wq_38, wq_311, ⟨by decide, by decide, by decide +kernel⟩⟩
theorem wq_312 : Cond.methodLink rM 156 yW_aimOf ∈ wT := wT_in 312 rfl rfl
theorem kV_M_156 : mp_V rM 156 yW_aimOf bW_aimOf 5 (some .int) 1 := ⟨wq_312, wq_248, wq_249, wq_38, wq_250, ⟨by decide, by decide, by decide +kernel⟩⟩
theorem wq_313 : Cond.methodLink rM 132 yW_become ∈ wT := wT_in 313 rfl rfl
theorem wq_314 : Cond.instanceMethod yW_become ∈ wT := wT_in 314 rfl rfl
theorem wq_315 : Cond.selects rW yW_become yW_become ∈ wT := wT_in 315 rfl rfl
theorem wq_316 : Cond.code yW_become bW_become 2 none ∈ wT := wT_in 316 rfl rfl
theorem kV_M_132 : mp_V rM 132 yW_become bW_become 2 none 1 := ⟨wq_313, wq_314, wq_315, wq_38, wq_316, ⟨by decide, by decide, by decide +kernel⟩⟩
theorem wq_298 : Cond.methodLink rM 115 yM_countRows ∈ wT := wT_in 298 rfl rfl
theorem wq_300 : Cond.instanceMethod yM_countRows ∈ wT := wT_in 300 rfl rfl
theorem wq_5 : Cond.selects rM yM_countRows yM_countRows ∈ wT := wT_in 5 rfl rfl
theorem wq_301 : Cond.code yM_countRows bM_countRows 7 (some .int) ∈ wT := wT_in 301 rfl rfl
theorem kV_M_115 : mp_V rM 115 yM_countRows bM_countRows 7 (some .int) 3 := ⟨wq_298, wq_300, wq_5, wq_37, wq_301, ⟨by decide, by decide, by decide +kernel⟩⟩
-- MovingPlaces$World.become
abbrev rmW_become : Room := { frames := 1, cells := 0, slots := 0, locals := 60 }
def fW_become (w v : SW) : Option SW := some (v.1, v.2.1, v.2.2.1, (va_cpy v.2.2.2.1 w.2.2.2.1 0 0 12), (va_cpy v.2.2.2.2.1 w.2.2.2.2.1 0 0 12), (va_cpy v.2.2.2.2.2.1 w.2.2.2.2.2.1 0 0 72), v.2.2.2.2.2.2.1, (va_cpy v.2.2.2.2.2.2.2.1 w.2.2.2.2.2.2.2.1 0 0 12), (va_cpy v.2.2.2.2.2.2.2.2.1 w.2.2.2.2.2.2.2.2.1 0 0 12), (va_cpy v.2.2.2.2.2.2.2.2.2.1 w.2.2.2.2.2.2.2.2.2.1 0 0 12), (va_cpy v.2.2.2.2.2.2.2.2.2.2.1 w.2.2.2.2.2.2.2.2.2.2.1 0 0 12), (va_cpy v.2.2.2.2.2.2.2.2.2.2.2 w.2.2.2.2.2.2.2.2.2.2.2 0 0 12))
set_option maxHeartbeats 4000000 in
set_option maxRecDepth 100000 in
theorem wW_become {p : Program} {l : Launch} {e : Env} {s : State} {m : MethodId} {args : Array Value} {below : List Frame} {meth : Method} {c : Code} (cx : mp_C p s m args meth c bW_become 2 none rW) (k : KK) (ad ao : Nat → Nat) (v w : SW) (z : SW) (hE : mp_E k s) (hAN : ∀ q, mp_A (aB ad ao) q → mp_N k q) {H : Heap} {locs : List Loc} (hP : va_P (kD k) mp_cls (cB k ad ao v w) H) (hD : va_D (mp_A (aB ad ao)) (cB k ad ao v w)) (hS : va_S (mp_A (aB ad ao)) s.heap H locs) (h : fW_become w v = some z) (ls : Array Slot) (hl : lv_has ls 2 [(0, .ref (ad 0)), (1, .ref (ao 0))]) : W p l e rmW_become s m args below meth c H locs 0 0 (MQ below (mp_Qm k none (cB k ad ao v z) (aB ad ao)) args s 0 0 (mp_A (aB ad ao))) (F0 m 0 ls []) := by
  obtain ⟨hx, hb, -, hml, hown, hts, -⟩ := id cx
  unfold fW_become at h
  refine lv_aload_n hx hb dW_become_0 rfl (lv_at hl 0 rfl) ?_
  refine lv_aload_n hx hb dW_become_1 rfl (lv_at hl 1 rfl) ?_
  refine mp_gW cx hE hP iW 9 rfl 0 (by decide) wq_56 rfl (v := .int v.1) rfl dW_become_2 ?_
  refine va_put (D := kD k) (ci := 0) (v := .int v.1) (ty := .int) (C := rW) (T := tW) (N := 12) hx hb hts iW gW gW_ok nW hown hE.1 hP hD hS 0 rfl rfl 0 (by decide) (hts _ wq_56) (fun _ h9 => h9) rfl (by decide +kernel) rfl rfl (Nat.le_of_ble_eq_true rfl) dW_become_5 (fun H locs hP hD hS => ?_)
  have hP : va_P (kD k) mp_cls (cB k ad ao v (v.1, w.2.1, w.2.2.1, w.2.2.2.1, w.2.2.2.2.1, w.2.2.2.2.2.1, w.2.2.2.2.2.2.1, w.2.2.2.2.2.2.2.1, w.2.2.2.2.2.2.2.2.1, w.2.2.2.2.2.2.2.2.2.1, w.2.2.2.2.2.2.2.2.2.2.1, w.2.2.2.2.2.2.2.2.2.2.2)) H := hP
  have hD : va_D (mp_A (aB ad ao)) (cB k ad ao v (v.1, w.2.1, w.2.2.1, w.2.2.2.1, w.2.2.2.2.1, w.2.2.2.2.2.1, w.2.2.2.2.2.2.1, w.2.2.2.2.2.2.2.1, w.2.2.2.2.2.2.2.2.1, w.2.2.2.2.2.2.2.2.2.1, w.2.2.2.2.2.2.2.2.2.2.1, w.2.2.2.2.2.2.2.2.2.2.2)) := hD
  refine lv_aload_n hx hb dW_become_8 rfl (lv_at hl 0 rfl) ?_
  refine lv_aload_n hx hb dW_become_9 rfl (lv_at hl 1 rfl) ?_
  refine mp_gW cx hE hP iW 9 rfl 1 (by decide) wq_57 rfl (v := .int v.2.1) rfl dW_become_10 ?_
  refine va_put (D := kD k) (ci := 0) (v := .int v.2.1) (ty := .int) (C := rW) (T := tW) (N := 12) hx hb hts iW gW gW_ok nW hown hE.1 hP hD hS 0 rfl rfl 1 (by decide) (hts _ wq_57) (fun _ h9 => h9) rfl (by decide +kernel) rfl rfl (Nat.le_of_ble_eq_true rfl) dW_become_13 (fun H locs hP hD hS => ?_)
  have hP : va_P (kD k) mp_cls (cB k ad ao v (v.1, v.2.1, w.2.2.1, w.2.2.2.1, w.2.2.2.2.1, w.2.2.2.2.2.1, w.2.2.2.2.2.2.1, w.2.2.2.2.2.2.2.1, w.2.2.2.2.2.2.2.2.1, w.2.2.2.2.2.2.2.2.2.1, w.2.2.2.2.2.2.2.2.2.2.1, w.2.2.2.2.2.2.2.2.2.2.2)) H := hP
  have hD : va_D (mp_A (aB ad ao)) (cB k ad ao v (v.1, v.2.1, w.2.2.1, w.2.2.2.1, w.2.2.2.2.1, w.2.2.2.2.2.1, w.2.2.2.2.2.2.1, w.2.2.2.2.2.2.2.1, w.2.2.2.2.2.2.2.2.1, w.2.2.2.2.2.2.2.2.2.1, w.2.2.2.2.2.2.2.2.2.2.1, w.2.2.2.2.2.2.2.2.2.2.2)) := hD
  refine lv_aload_n hx hb dW_become_16 rfl (lv_at hl 0 rfl) ?_
  refine lv_aload_n hx hb dW_become_17 rfl (lv_at hl 1 rfl) ?_
  refine mp_gW cx hE hP iW 9 rfl 2 (by decide) wq_58 rfl (v := .int v.2.2.1) rfl dW_become_18 ?_
  refine va_put (D := kD k) (ci := 0) (v := .int v.2.2.1) (ty := .int) (C := rW) (T := tW) (N := 12) hx hb hts iW gW gW_ok nW hown hE.1 hP hD hS 0 rfl rfl 2 (by decide) (hts _ wq_58) (fun _ h9 => h9) rfl (by decide +kernel) rfl rfl (Nat.le_of_ble_eq_true rfl) dW_become_21 (fun H locs hP hD hS => ?_)
  have hP : va_P (kD k) mp_cls (cB k ad ao v (v.1, v.2.1, v.2.2.1, w.2.2.2.1, w.2.2.2.2.1, w.2.2.2.2.2.1, w.2.2.2.2.2.2.1, w.2.2.2.2.2.2.2.1, w.2.2.2.2.2.2.2.2.1, w.2.2.2.2.2.2.2.2.2.1, w.2.2.2.2.2.2.2.2.2.2.1, w.2.2.2.2.2.2.2.2.2.2.2)) H := hP
  have hD : va_D (mp_A (aB ad ao)) (cB k ad ao v (v.1, v.2.1, v.2.2.1, w.2.2.2.1, w.2.2.2.2.1, w.2.2.2.2.2.1, w.2.2.2.2.2.2.1, w.2.2.2.2.2.2.2.1, w.2.2.2.2.2.2.2.2.1, w.2.2.2.2.2.2.2.2.2.1, w.2.2.2.2.2.2.2.2.2.2.1, w.2.2.2.2.2.2.2.2.2.2.2)) := hD
  refine lv_aload_n hx hb dW_become_24 rfl (lv_at hl 1 rfl) ?_
  refine mp_gW cx hE hP iW 9 rfl 3 (by decide) wq_59 rfl (v := .ref (ao 1)) rfl dW_become_25 ?_
  refine lv_iconst (v := 0) hx hb dW_become_28 (by decide) ?_
  refine lv_aload_n hx hb dW_become_29 rfl (lv_at hl 0 rfl) ?_
  refine mp_gW cx hE hP iW 0 rfl 3 (by decide) wq_59 rfl (v := .ref (ad 1)) rfl dW_become_30 ?_
  refine lv_iconst (v := 0) hx hb dW_become_33 (by decide) ?_
  refine lv_bipush (v := 12) hx hb dW_become_34 (by decide) ?_
  refine va_copyi hx hb (hml.trans hl.1.symm) hown (hts _ wq_317) (hts _ wq_319) (hts _ wq_318) (hts _ wq_41) hE.1 hP hD hS 10 1 0 0 (f := v.2.2.2.1) (g := w.2.2.2.1) rfl rfl rfl rfl rfl (by decide) (by decide) (by decide) (by decide) (by decide) (fun _ _ => rfl) (Nat.le_of_ble_eq_true rfl) (Nat.le_of_ble_eq_true rfl) dW_become_36 (fun H locs hP hD hS => ?_)
  have hP : va_P (kD k) mp_cls (cB k ad ao v (v.1, v.2.1, v.2.2.1, (va_cpy v.2.2.2.1 w.2.2.2.1 0 0 12), w.2.2.2.2.1, w.2.2.2.2.2.1, w.2.2.2.2.2.2.1, w.2.2.2.2.2.2.2.1, w.2.2.2.2.2.2.2.2.1, w.2.2.2.2.2.2.2.2.2.1, w.2.2.2.2.2.2.2.2.2.2.1, w.2.2.2.2.2.2.2.2.2.2.2)) H := hP
  have hD : va_D (mp_A (aB ad ao)) (cB k ad ao v (v.1, v.2.1, v.2.2.1, (va_cpy v.2.2.2.1 w.2.2.2.1 0 0 12), w.2.2.2.2.1, w.2.2.2.2.2.1, w.2.2.2.2.2.2.1, w.2.2.2.2.2.2.2.1, w.2.2.2.2.2.2.2.2.1, w.2.2.2.2.2.2.2.2.2.1, w.2.2.2.2.2.2.2.2.2.2.1, w.2.2.2.2.2.2.2.2.2.2.2)) := hD
  refine lv_aload_n hx hb dW_become_39 rfl (lv_at hl 1 rfl) ?_
  refine mp_gW cx hE hP iW 9 rfl 4 (by decide) wq_60 rfl (v := .ref (ao 2)) rfl dW_become_40 ?_
  refine lv_iconst (v := 0) hx hb dW_become_43 (by decide) ?_
  refine lv_aload_n hx hb dW_become_44 rfl (lv_at hl 0 rfl) ?_
  refine mp_gW cx hE hP iW 0 rfl 4 (by decide) wq_60 rfl (v := .ref (ad 2)) rfl dW_become_45 ?_
  refine lv_iconst (v := 0) hx hb dW_become_48 (by decide) ?_
  refine lv_bipush (v := 12) hx hb dW_become_49 (by decide) ?_
  refine va_copyi hx hb (hml.trans hl.1.symm) hown (hts _ wq_317) (hts _ wq_319) (hts _ wq_318) (hts _ wq_41) hE.1 hP hD hS 11 2 0 0 (f := v.2.2.2.2.1) (g := w.2.2.2.2.1) rfl rfl rfl rfl rfl (by decide) (by decide) (by decide) (by decide) (by decide) (fun _ _ => rfl) (Nat.le_of_ble_eq_true rfl) (Nat.le_of_ble_eq_true rfl) dW_become_51 (fun H locs hP hD hS => ?_)
  have hP : va_P (kD k) mp_cls (cB k ad ao v (v.1, v.2.1, v.2.2.1, (va_cpy v.2.2.2.1 w.2.2.2.1 0 0 12), (va_cpy v.2.2.2.2.1 w.2.2.2.2.1 0 0 12), w.2.2.2.2.2.1, w.2.2.2.2.2.2.1, w.2.2.2.2.2.2.2.1, w.2.2.2.2.2.2.2.2.1, w.2.2.2.2.2.2.2.2.2.1, w.2.2.2.2.2.2.2.2.2.2.1, w.2.2.2.2.2.2.2.2.2.2.2)) H := hP
  have hD : va_D (mp_A (aB ad ao)) (cB k ad ao v (v.1, v.2.1, v.2.2.1, (va_cpy v.2.2.2.1 w.2.2.2.1 0 0 12), (va_cpy v.2.2.2.2.1 w.2.2.2.2.1 0 0 12), w.2.2.2.2.2.1, w.2.2.2.2.2.2.1, w.2.2.2.2.2.2.2.1, w.2.2.2.2.2.2.2.2.1, w.2.2.2.2.2.2.2.2.2.1, w.2.2.2.2.2.2.2.2.2.2.1, w.2.2.2.2.2.2.2.2.2.2.2)) := hD
  refine lv_aload_n hx hb dW_become_54 rfl (lv_at hl 1 rfl) ?_
  refine mp_gW cx hE hP iW 9 rfl 5 (by decide) wq_61 rfl (v := .ref (ao 3)) rfl dW_become_55 ?_
  refine lv_iconst (v := 0) hx hb dW_become_58 (by decide) ?_
  refine lv_aload_n hx hb dW_become_59 rfl (lv_at hl 0 rfl) ?_
  refine mp_gW cx hE hP iW 0 rfl 5 (by decide) wq_61 rfl (v := .ref (ad 3)) rfl dW_become_60 ?_
  refine lv_iconst (v := 0) hx hb dW_become_63 (by decide) ?_
  refine lv_bipush (v := 72) hx hb dW_become_64 (by decide) ?_
  refine va_copyi hx hb (hml.trans hl.1.symm) hown (hts _ wq_317) (hts _ wq_319) (hts _ wq_318) (hts _ wq_41) hE.1 hP hD hS 12 3 0 0 (f := v.2.2.2.2.2.1) (g := w.2.2.2.2.2.1) rfl rfl rfl rfl rfl (by decide) (by decide) (by decide) (by decide) (by decide) (fun _ _ => rfl) (Nat.le_of_ble_eq_true rfl) (Nat.le_of_ble_eq_true rfl) dW_become_66 (fun H locs hP hD hS => ?_)
  have hP : va_P (kD k) mp_cls (cB k ad ao v (v.1, v.2.1, v.2.2.1, (va_cpy v.2.2.2.1 w.2.2.2.1 0 0 12), (va_cpy v.2.2.2.2.1 w.2.2.2.2.1 0 0 12), (va_cpy v.2.2.2.2.2.1 w.2.2.2.2.2.1 0 0 72), w.2.2.2.2.2.2.1, w.2.2.2.2.2.2.2.1, w.2.2.2.2.2.2.2.2.1, w.2.2.2.2.2.2.2.2.2.1, w.2.2.2.2.2.2.2.2.2.2.1, w.2.2.2.2.2.2.2.2.2.2.2)) H := hP
  have hD : va_D (mp_A (aB ad ao)) (cB k ad ao v (v.1, v.2.1, v.2.2.1, (va_cpy v.2.2.2.1 w.2.2.2.1 0 0 12), (va_cpy v.2.2.2.2.1 w.2.2.2.2.1 0 0 12), (va_cpy v.2.2.2.2.2.1 w.2.2.2.2.2.1 0 0 72), w.2.2.2.2.2.2.1, w.2.2.2.2.2.2.2.1, w.2.2.2.2.2.2.2.2.1, w.2.2.2.2.2.2.2.2.2.1, w.2.2.2.2.2.2.2.2.2.2.1, w.2.2.2.2.2.2.2.2.2.2.2)) := hD
  refine lv_aload_n hx hb dW_become_69 rfl (lv_at hl 0 rfl) ?_
  refine lv_aload_n hx hb dW_become_70 rfl (lv_at hl 1 rfl) ?_
  refine mp_gW cx hE hP iW 9 rfl 6 (by decide) wq_62 rfl (v := .int v.2.2.2.2.2.2.1) rfl dW_become_71 ?_
  refine va_put (D := kD k) (ci := 0) (v := .int v.2.2.2.2.2.2.1) (ty := .int) (C := rW) (T := tW) (N := 12) hx hb hts iW gW gW_ok nW hown hE.1 hP hD hS 0 rfl rfl 6 (by decide) (hts _ wq_62) (fun _ h9 => h9) rfl (by decide +kernel) rfl rfl (Nat.le_of_ble_eq_true rfl) dW_become_74 (fun H locs hP hD hS => ?_)
  have hP : va_P (kD k) mp_cls (cB k ad ao v (v.1, v.2.1, v.2.2.1, (va_cpy v.2.2.2.1 w.2.2.2.1 0 0 12), (va_cpy v.2.2.2.2.1 w.2.2.2.2.1 0 0 12), (va_cpy v.2.2.2.2.2.1 w.2.2.2.2.2.1 0 0 72), v.2.2.2.2.2.2.1, w.2.2.2.2.2.2.2.1, w.2.2.2.2.2.2.2.2.1, w.2.2.2.2.2.2.2.2.2.1, w.2.2.2.2.2.2.2.2.2.2.1, w.2.2.2.2.2.2.2.2.2.2.2)) H := hP
  have hD : va_D (mp_A (aB ad ao)) (cB k ad ao v (v.1, v.2.1, v.2.2.1, (va_cpy v.2.2.2.1 w.2.2.2.1 0 0 12), (va_cpy v.2.2.2.2.1 w.2.2.2.2.1 0 0 12), (va_cpy v.2.2.2.2.2.1 w.2.2.2.2.2.1 0 0 72), v.2.2.2.2.2.2.1, w.2.2.2.2.2.2.2.1, w.2.2.2.2.2.2.2.2.1, w.2.2.2.2.2.2.2.2.2.1, w.2.2.2.2.2.2.2.2.2.2.1, w.2.2.2.2.2.2.2.2.2.2.2)) := hD
  refine lv_aload_n hx hb dW_become_77 rfl (lv_at hl 1 rfl) ?_
  refine mp_gW cx hE hP iW 9 rfl 7 (by decide) wq_63 rfl (v := .ref (ao 4)) rfl dW_become_78 ?_
  refine lv_iconst (v := 0) hx hb dW_become_81 (by decide) ?_
  refine lv_aload_n hx hb dW_become_82 rfl (lv_at hl 0 rfl) ?_
  refine mp_gW cx hE hP iW 0 rfl 7 (by decide) wq_63 rfl (v := .ref (ad 4)) rfl dW_become_83 ?_
  refine lv_iconst (v := 0) hx hb dW_become_86 (by decide) ?_
  refine lv_bipush (v := 12) hx hb dW_become_87 (by decide) ?_
  refine va_copyi hx hb (hml.trans hl.1.symm) hown (hts _ wq_317) (hts _ wq_319) (hts _ wq_318) (hts _ wq_41) hE.1 hP hD hS 13 4 0 0 (f := v.2.2.2.2.2.2.2.1) (g := w.2.2.2.2.2.2.2.1) rfl rfl rfl rfl rfl (by decide) (by decide) (by decide) (by decide) (by decide) (fun _ _ => rfl) (Nat.le_of_ble_eq_true rfl) (Nat.le_of_ble_eq_true rfl) dW_become_89 (fun H locs hP hD hS => ?_)
  have hP : va_P (kD k) mp_cls (cB k ad ao v (v.1, v.2.1, v.2.2.1, (va_cpy v.2.2.2.1 w.2.2.2.1 0 0 12), (va_cpy v.2.2.2.2.1 w.2.2.2.2.1 0 0 12), (va_cpy v.2.2.2.2.2.1 w.2.2.2.2.2.1 0 0 72), v.2.2.2.2.2.2.1, (va_cpy v.2.2.2.2.2.2.2.1 w.2.2.2.2.2.2.2.1 0 0 12), w.2.2.2.2.2.2.2.2.1, w.2.2.2.2.2.2.2.2.2.1, w.2.2.2.2.2.2.2.2.2.2.1, w.2.2.2.2.2.2.2.2.2.2.2)) H := hP
  have hD : va_D (mp_A (aB ad ao)) (cB k ad ao v (v.1, v.2.1, v.2.2.1, (va_cpy v.2.2.2.1 w.2.2.2.1 0 0 12), (va_cpy v.2.2.2.2.1 w.2.2.2.2.1 0 0 12), (va_cpy v.2.2.2.2.2.1 w.2.2.2.2.2.1 0 0 72), v.2.2.2.2.2.2.1, (va_cpy v.2.2.2.2.2.2.2.1 w.2.2.2.2.2.2.2.1 0 0 12), w.2.2.2.2.2.2.2.2.1, w.2.2.2.2.2.2.2.2.2.1, w.2.2.2.2.2.2.2.2.2.2.1, w.2.2.2.2.2.2.2.2.2.2.2)) := hD
  refine lv_aload_n hx hb dW_become_92 rfl (lv_at hl 1 rfl) ?_
  refine mp_gW cx hE hP iW 9 rfl 8 (by decide) wq_64 rfl (v := .ref (ao 5)) rfl dW_become_93 ?_
  refine lv_iconst (v := 0) hx hb dW_become_96 (by decide) ?_
  refine lv_aload_n hx hb dW_become_97 rfl (lv_at hl 0 rfl) ?_
  refine mp_gW cx hE hP iW 0 rfl 8 (by decide) wq_64 rfl (v := .ref (ad 5)) rfl dW_become_98 ?_
  refine lv_iconst (v := 0) hx hb dW_become_101 (by decide) ?_
  refine lv_bipush (v := 12) hx hb dW_become_102 (by decide) ?_
  refine va_copyl hx hb (hml.trans hl.1.symm) hown (hts _ wq_317) (hts _ wq_319) (hts _ wq_318) (hts _ wq_41) hE.1 hP hD hS 14 5 1 1 (f := v.2.2.2.2.2.2.2.2.1) (g := w.2.2.2.2.2.2.2.2.1) rfl rfl rfl rfl rfl (by decide) (by decide) (by decide) (by decide) (by decide) (fun _ _ => rfl) (Nat.le_of_ble_eq_true rfl) (Nat.le_of_ble_eq_true rfl) dW_become_104 (fun H locs hP hD hS => ?_)
  have hP : va_P (kD k) mp_cls (cB k ad ao v (v.1, v.2.1, v.2.2.1, (va_cpy v.2.2.2.1 w.2.2.2.1 0 0 12), (va_cpy v.2.2.2.2.1 w.2.2.2.2.1 0 0 12), (va_cpy v.2.2.2.2.2.1 w.2.2.2.2.2.1 0 0 72), v.2.2.2.2.2.2.1, (va_cpy v.2.2.2.2.2.2.2.1 w.2.2.2.2.2.2.2.1 0 0 12), (va_cpy v.2.2.2.2.2.2.2.2.1 w.2.2.2.2.2.2.2.2.1 0 0 12), w.2.2.2.2.2.2.2.2.2.1, w.2.2.2.2.2.2.2.2.2.2.1, w.2.2.2.2.2.2.2.2.2.2.2)) H := hP
  have hD : va_D (mp_A (aB ad ao)) (cB k ad ao v (v.1, v.2.1, v.2.2.1, (va_cpy v.2.2.2.1 w.2.2.2.1 0 0 12), (va_cpy v.2.2.2.2.1 w.2.2.2.2.1 0 0 12), (va_cpy v.2.2.2.2.2.1 w.2.2.2.2.2.1 0 0 72), v.2.2.2.2.2.2.1, (va_cpy v.2.2.2.2.2.2.2.1 w.2.2.2.2.2.2.2.1 0 0 12), (va_cpy v.2.2.2.2.2.2.2.2.1 w.2.2.2.2.2.2.2.2.1 0 0 12), w.2.2.2.2.2.2.2.2.2.1, w.2.2.2.2.2.2.2.2.2.2.1, w.2.2.2.2.2.2.2.2.2.2.2)) := hD
  refine lv_aload_n hx hb dW_become_107 rfl (lv_at hl 1 rfl) ?_
  refine mp_gW cx hE hP iW 9 rfl 9 (by decide) wq_65 rfl (v := .ref (ao 6)) rfl dW_become_108 ?_
  refine lv_iconst (v := 0) hx hb dW_become_111 (by decide) ?_
  refine lv_aload_n hx hb dW_become_112 rfl (lv_at hl 0 rfl) ?_
  refine mp_gW cx hE hP iW 0 rfl 9 (by decide) wq_65 rfl (v := .ref (ad 6)) rfl dW_become_113 ?_
  refine lv_iconst (v := 0) hx hb dW_become_116 (by decide) ?_
  refine lv_bipush (v := 12) hx hb dW_become_117 (by decide) ?_
  refine va_copyi hx hb (hml.trans hl.1.symm) hown (hts _ wq_317) (hts _ wq_319) (hts _ wq_318) (hts _ wq_41) hE.1 hP hD hS 15 6 0 0 (f := v.2.2.2.2.2.2.2.2.2.1) (g := w.2.2.2.2.2.2.2.2.2.1) rfl rfl rfl rfl rfl (by decide) (by decide) (by decide) (by decide) (by decide) (fun _ _ => rfl) (Nat.le_of_ble_eq_true rfl) (Nat.le_of_ble_eq_true rfl) dW_become_119 (fun H locs hP hD hS => ?_)
  have hP : va_P (kD k) mp_cls (cB k ad ao v (v.1, v.2.1, v.2.2.1, (va_cpy v.2.2.2.1 w.2.2.2.1 0 0 12), (va_cpy v.2.2.2.2.1 w.2.2.2.2.1 0 0 12), (va_cpy v.2.2.2.2.2.1 w.2.2.2.2.2.1 0 0 72), v.2.2.2.2.2.2.1, (va_cpy v.2.2.2.2.2.2.2.1 w.2.2.2.2.2.2.2.1 0 0 12), (va_cpy v.2.2.2.2.2.2.2.2.1 w.2.2.2.2.2.2.2.2.1 0 0 12), (va_cpy v.2.2.2.2.2.2.2.2.2.1 w.2.2.2.2.2.2.2.2.2.1 0 0 12), w.2.2.2.2.2.2.2.2.2.2.1, w.2.2.2.2.2.2.2.2.2.2.2)) H := hP
  have hD : va_D (mp_A (aB ad ao)) (cB k ad ao v (v.1, v.2.1, v.2.2.1, (va_cpy v.2.2.2.1 w.2.2.2.1 0 0 12), (va_cpy v.2.2.2.2.1 w.2.2.2.2.1 0 0 12), (va_cpy v.2.2.2.2.2.1 w.2.2.2.2.2.1 0 0 72), v.2.2.2.2.2.2.1, (va_cpy v.2.2.2.2.2.2.2.1 w.2.2.2.2.2.2.2.1 0 0 12), (va_cpy v.2.2.2.2.2.2.2.2.1 w.2.2.2.2.2.2.2.2.1 0 0 12), (va_cpy v.2.2.2.2.2.2.2.2.2.1 w.2.2.2.2.2.2.2.2.2.1 0 0 12), w.2.2.2.2.2.2.2.2.2.2.1, w.2.2.2.2.2.2.2.2.2.2.2)) := hD
  refine lv_aload_n hx hb dW_become_122 rfl (lv_at hl 1 rfl) ?_
  refine mp_gW cx hE hP iW 9 rfl 10 (by decide) wq_66 rfl (v := .ref (ao 7)) rfl dW_become_123 ?_
  refine lv_iconst (v := 0) hx hb dW_become_126 (by decide) ?_
  refine lv_aload_n hx hb dW_become_127 rfl (lv_at hl 0 rfl) ?_
  refine mp_gW cx hE hP iW 0 rfl 10 (by decide) wq_66 rfl (v := .ref (ad 7)) rfl dW_become_128 ?_
  refine lv_iconst (v := 0) hx hb dW_become_131 (by decide) ?_
  refine lv_bipush (v := 12) hx hb dW_become_132 (by decide) ?_
  refine va_copyi hx hb (hml.trans hl.1.symm) hown (hts _ wq_317) (hts _ wq_319) (hts _ wq_318) (hts _ wq_41) hE.1 hP hD hS 16 7 0 0 (f := v.2.2.2.2.2.2.2.2.2.2.1) (g := w.2.2.2.2.2.2.2.2.2.2.1) rfl rfl rfl rfl rfl (by decide) (by decide) (by decide) (by decide) (by decide) (fun _ _ => rfl) (Nat.le_of_ble_eq_true rfl) (Nat.le_of_ble_eq_true rfl) dW_become_134 (fun H locs hP hD hS => ?_)
  have hP : va_P (kD k) mp_cls (cB k ad ao v (v.1, v.2.1, v.2.2.1, (va_cpy v.2.2.2.1 w.2.2.2.1 0 0 12), (va_cpy v.2.2.2.2.1 w.2.2.2.2.1 0 0 12), (va_cpy v.2.2.2.2.2.1 w.2.2.2.2.2.1 0 0 72), v.2.2.2.2.2.2.1, (va_cpy v.2.2.2.2.2.2.2.1 w.2.2.2.2.2.2.2.1 0 0 12), (va_cpy v.2.2.2.2.2.2.2.2.1 w.2.2.2.2.2.2.2.2.1 0 0 12), (va_cpy v.2.2.2.2.2.2.2.2.2.1 w.2.2.2.2.2.2.2.2.2.1 0 0 12), (va_cpy v.2.2.2.2.2.2.2.2.2.2.1 w.2.2.2.2.2.2.2.2.2.2.1 0 0 12), w.2.2.2.2.2.2.2.2.2.2.2)) H := hP
  have hD : va_D (mp_A (aB ad ao)) (cB k ad ao v (v.1, v.2.1, v.2.2.1, (va_cpy v.2.2.2.1 w.2.2.2.1 0 0 12), (va_cpy v.2.2.2.2.1 w.2.2.2.2.1 0 0 12), (va_cpy v.2.2.2.2.2.1 w.2.2.2.2.2.1 0 0 72), v.2.2.2.2.2.2.1, (va_cpy v.2.2.2.2.2.2.2.1 w.2.2.2.2.2.2.2.1 0 0 12), (va_cpy v.2.2.2.2.2.2.2.2.1 w.2.2.2.2.2.2.2.2.1 0 0 12), (va_cpy v.2.2.2.2.2.2.2.2.2.1 w.2.2.2.2.2.2.2.2.2.1 0 0 12), (va_cpy v.2.2.2.2.2.2.2.2.2.2.1 w.2.2.2.2.2.2.2.2.2.2.1 0 0 12), w.2.2.2.2.2.2.2.2.2.2.2)) := hD
  refine lv_aload_n hx hb dW_become_137 rfl (lv_at hl 1 rfl) ?_
  refine mp_gW cx hE hP iW 9 rfl 11 (by decide) wq_67 rfl (v := .ref (ao 8)) rfl dW_become_138 ?_
  refine lv_iconst (v := 0) hx hb dW_become_141 (by decide) ?_
  refine lv_aload_n hx hb dW_become_142 rfl (lv_at hl 0 rfl) ?_
  refine mp_gW cx hE hP iW 0 rfl 11 (by decide) wq_67 rfl (v := .ref (ad 8)) rfl dW_become_143 ?_
  refine lv_iconst (v := 0) hx hb dW_become_146 (by decide) ?_
  refine lv_bipush (v := 12) hx hb dW_become_147 (by decide) ?_
  refine va_copyi hx hb (hml.trans hl.1.symm) hown (hts _ wq_317) (hts _ wq_319) (hts _ wq_318) (hts _ wq_41) hE.1 hP hD hS 17 8 0 0 (f := v.2.2.2.2.2.2.2.2.2.2.2) (g := w.2.2.2.2.2.2.2.2.2.2.2) rfl rfl rfl rfl rfl (by decide) (by decide) (by decide) (by decide) (by decide) (fun _ _ => rfl) (Nat.le_of_ble_eq_true rfl) (Nat.le_of_ble_eq_true rfl) dW_become_149 (fun H locs hP hD hS => ?_)
  have hP : va_P (kD k) mp_cls (cB k ad ao v (v.1, v.2.1, v.2.2.1, (va_cpy v.2.2.2.1 w.2.2.2.1 0 0 12), (va_cpy v.2.2.2.2.1 w.2.2.2.2.1 0 0 12), (va_cpy v.2.2.2.2.2.1 w.2.2.2.2.2.1 0 0 72), v.2.2.2.2.2.2.1, (va_cpy v.2.2.2.2.2.2.2.1 w.2.2.2.2.2.2.2.1 0 0 12), (va_cpy v.2.2.2.2.2.2.2.2.1 w.2.2.2.2.2.2.2.2.1 0 0 12), (va_cpy v.2.2.2.2.2.2.2.2.2.1 w.2.2.2.2.2.2.2.2.2.1 0 0 12), (va_cpy v.2.2.2.2.2.2.2.2.2.2.1 w.2.2.2.2.2.2.2.2.2.2.1 0 0 12), (va_cpy v.2.2.2.2.2.2.2.2.2.2.2 w.2.2.2.2.2.2.2.2.2.2.2 0 0 12))) H := hP
  have hD : va_D (mp_A (aB ad ao)) (cB k ad ao v (v.1, v.2.1, v.2.2.1, (va_cpy v.2.2.2.1 w.2.2.2.1 0 0 12), (va_cpy v.2.2.2.2.1 w.2.2.2.2.1 0 0 12), (va_cpy v.2.2.2.2.2.1 w.2.2.2.2.2.1 0 0 72), v.2.2.2.2.2.2.1, (va_cpy v.2.2.2.2.2.2.2.1 w.2.2.2.2.2.2.2.1 0 0 12), (va_cpy v.2.2.2.2.2.2.2.2.1 w.2.2.2.2.2.2.2.2.1 0 0 12), (va_cpy v.2.2.2.2.2.2.2.2.2.1 w.2.2.2.2.2.2.2.2.2.1 0 0 12), (va_cpy v.2.2.2.2.2.2.2.2.2.2.1 w.2.2.2.2.2.2.2.2.2.2.1 0 0 12), (va_cpy v.2.2.2.2.2.2.2.2.2.2.2 w.2.2.2.2.2.2.2.2.2.2.2 0 0 12))) := hD
  exact mp_rvm (cf := cB k ad ao v) cx h hP hS dW_become_152
theorem cW_become (l : Launch) (k : KK) (ad ao : Nat → Nat) (v w : SW) (z : SW) (h : fW_become w v = some z) : mp_CM l k yW_become bW_become 2 none rmW_become [.ref (ad 0), .ref (ao 0)] (cB k ad ao v w) (cB k ad ao v z) (aB ad ao) none := by
  refine Met.ofW (cc := bW_become) (maxL := 2) (ret := none) (by decide) rfl ?_
  intro p e s m args below meth c s₁ B hml hv
  obtain ⟨rfl, hP, hD, hE⟩ := hv
  have hl := lv_entry ([.ref (ad 0), .ref (ao 0)]) (n := 2) (Nat.le_of_ble_eq_true rfl)
  rw [lg_entry_eq]
  generalize (lg_sl ([.ref (ad 0), .ref (ao 0)]) ++ List.replicate (2 - (lg_sl ([.ref (ad 0), .ref (ao 0)])).length) Slot.unset).toArray = ls at hl ⊢
  exact wW_become (mp_C.of B hml) k ad ao v w z hE (mp_new hD rfl) hP (mp_own hD rfl) va_S.rf h ls hl
-- MovingPlaces.place
abbrev rmM_place : Room := { frames := 1, cells := 0, slots := 0, locals := 24 }
def fM_place (S : SM) (a1 : Int32) (a2 : Int32) : Option (Int32 × SM) := (fW_isPlace S.1 a1).bind fun x1 => (if x1 = 0 then some ((-1), S) else (fM_isName a2).bind fun x3 => (if x3 = 0 then some ((-1), S) else (fW_addPlace S.1 a1 a2).bind fun x5 => some (x5.1, (x5.2, S.2.1, S.2.2.1, S.2.2.2.1, S.2.2.2.2.1, S.2.2.2.2.2.1, S.2.2.2.2.2.2))))
set_option maxHeartbeats 4000000 in
set_option maxRecDepth 100000 in
theorem wM_place {p : Program} {l : Launch} {e : Env} {s : State} {m : MethodId} {args : Array Value} {below : List Frame} {meth : Method} {c : Code} (cx : mp_C p s m args meth c bM_place 3 (some .int) rM) (k : KK) (ad : Nat → Nat) (S : SM) (a1 : Int32) (a2 : Int32) (z : (Int32 × SM)) (hE : mp_E k s) (hAN : ∀ q, mp_A (aM ad) q → mp_N k q) {H : Heap} {locs : List Loc} (hP : va_P (kD k) mp_cls (cM k ad S) H) (hD : va_D (mp_A (aM ad)) (cM k ad S)) (hS : va_S (mp_A (aM ad)) s.heap H locs) (h : fM_place S a1 a2 = some z) (ls : Array Slot) (hl : lv_has ls 3 [(0, .ref (ad 0)), (1, .int a1), (2, .int a2)]) : W p l e rmM_place s m args below meth c H locs 0 0 (MQ below (mp_Qm k (some (.int z.1)) (cM k ad z.2) (aM ad)) args s 0 0 (mp_A (aM ad))) (F0 m 0 ls []) := by
  obtain ⟨hx, hb, -, hml, hown, hts, -⟩ := id cx
  unfold fM_place at h
  refine lv_aload_n hx hb dM_place_0 rfl (lv_at hl 0 rfl) ?_
  refine mp_gM cx hE hP iM 0 rfl 0 (by decide) wq_96 rfl (v := .ref (ad 1)) rfl dM_place_1 ?_
  refine lv_iload_n hx hb dM_place_4 rfl (lv_at hl 1 rfl) ?_
  obtain ⟨x1, ex1, h⟩ := mp_bs h
  refine mp_si (mp_runV (As := [.int a1]) (rest := []) cx kV_M_31 (cW_isPlace l k (fun i => ad (i + 1)) S.1 a1 x1 ex1) ⟨rfl, rfl, Nat.le_of_ble_eq_true rfl, Nat.le_of_ble_eq_true rfl⟩ ⟨Nat.zero_le _, Nat.zero_le _⟩ hE (pM_now (S := S) hP) (dM_now (S := S) (mp_Dw hD hAN)) (mp_S hS hAN) 0 rfl rfl rfl hl.1 rfl (Nat.le_of_ble_eq_true rfl) dM_place_5) ?_
  refine lv_if_eq (tgt := 18) hx hb dM_place_8 (by decide) (fun c2 => ?_) (fun c2 => ?_)
  · have h := mp_t c2 h
    refine lv_iconst (v := (-1)) hx hb dM_place_18 (by decide) ?_
    exact mp_rim (cf := cM k ad) cx h hP hS dM_place_19
  · have h := mp_f c2 h
    refine lv_iload_n hx hb dM_place_11 rfl (lv_at hl 2 rfl) ?_
    obtain ⟨x3, ex3, h⟩ := mp_bs h
    refine mp_si (mp_runT (As := [.int a2]) (rest := []) cx kT_M_35 (cM_isName l k a2 x3 ex3) ⟨rfl, rfl, Nat.le_of_ble_eq_true rfl, Nat.le_of_ble_eq_true rfl⟩ ⟨Nat.zero_le _, Nat.zero_le _⟩ hE mp_P0 mp_D0 (mp_S hS hAN) hl.1 rfl (Nat.le_of_ble_eq_true rfl) dM_place_12) ?_
    refine lv_if_ne (tgt := 20) hx hb dM_place_15 (by decide) (fun c4 => ?_) (fun c4 => ?_)
    · have h := mp_f c4 h
      refine lv_aload_n hx hb dM_place_20 rfl (lv_at hl 0 rfl) ?_
      refine mp_gM cx hE hP iM 0 rfl 0 (by decide) wq_96 rfl (v := .ref (ad 1)) rfl dM_place_21 ?_
      refine lv_iload_n hx hb dM_place_24 rfl (lv_at hl 1 rfl) ?_
      refine lv_iload_n hx hb dM_place_25 rfl (lv_at hl 2 rfl) ?_
      obtain ⟨x5, ex5, h⟩ := mp_bs h
      refine mp_mi (mp_runV (As := [.int a1, .int a2]) (rest := []) cx kV_M_38 (cW_addPlace l k (fun i => ad (i + 1)) S.1 a1 a2 x5 ex5) ⟨rfl, rfl, Nat.le_of_ble_eq_true rfl, Nat.le_of_ble_eq_true rfl⟩ ⟨Nat.zero_le _, Nat.zero_le _⟩ hE (pM_now (S := S) hP) (dM_now (S := S) (mp_Dw hD hAN)) (mp_S hS hAN) 0 rfl rfl rfl hl.1 rfl (Nat.le_of_ble_eq_true rfl) dM_place_26) hS (fun q h9 => mp_new (dM_now (S := S) hD) rfl q h9) (fun H1 locs hP1 hk hS => ?_)
      have hP : va_P (kD k) mp_cls (cM k ad (x5.2, S.2.1, S.2.2.1, S.2.2.2.1, S.2.2.2.2.1, S.2.2.2.2.2.1, S.2.2.2.2.2.2)) H1 := jM_now (S := S) hP hD hk hP1
      have hD : va_D (mp_A (aM ad)) (cM k ad (x5.2, S.2.1, S.2.2.1, S.2.2.2.1, S.2.2.2.2.1, S.2.2.2.2.2.1, S.2.2.2.2.2.2)) := mp_Ds hD rfl
      exact mp_rim (cf := cM k ad) cx h hP hS dM_place_29
    · have h := mp_t c4 h
      refine lv_iconst (v := (-1)) hx hb dM_place_18 (by decide) ?_
      exact mp_rim (cf := cM k ad) cx h hP hS dM_place_19
theorem cM_place (l : Launch) (k : KK) (ad : Nat → Nat) (S : SM) (a1 : Int32) (a2 : Int32) (z : (Int32 × SM)) (h : fM_place S a1 a2 = some z) : mp_CM l k yM_place bM_place 3 (some .int) rmM_place [.ref (ad 0), .int a1, .int a2] (cM k ad S) (cM k ad z.2) (aM ad) (some (.int z.1)) := by
  refine Met.ofW (cc := bM_place) (maxL := 3) (ret := (some .int)) (by decide) rfl ?_
  intro p e s m args below meth c s₁ B hml hv
  obtain ⟨rfl, hP, hD, hE⟩ := hv
  have hl := lv_entry ([.ref (ad 0), .int a1, .int a2]) (n := 3) (Nat.le_of_ble_eq_true rfl)
  rw [lg_entry_eq]
  generalize (lg_sl ([.ref (ad 0), .int a1, .int a2]) ++ List.replicate (3 - (lg_sl ([.ref (ad 0), .int a1, .int a2])).length) Slot.unset).toArray = ls at hl ⊢
  exact wM_place (mp_C.of B hml) k ad S a1 a2 z hE (mp_new hD rfl) hP (mp_own hD rfl) va_S.rf h ls hl
-- MovingPlaces.thread
abbrev rmM_thread : Room := { frames := 3, cells := 0, slots := 0, locals := 66 }
def fM_thread (S : SM) (a1 : Int32) (a2 : Int64) : Option (Int32 × SM) := (fW_isPlace S.1 a1).bind fun x1 => (if x1 = 0 then some ((-1), S) else (fM_countActs a2).bind fun x3 => (if x3 = 0 then some ((-2), S) else (fW_addThread S.1 a1 a2 x3).bind fun x5 => some (x5.1, (x5.2, S.2.1, S.2.2.1, S.2.2.2.1, S.2.2.2.2.1, S.2.2.2.2.2.1, S.2.2.2.2.2.2))))
set_option maxHeartbeats 4000000 in
set_option maxRecDepth 100000 in
theorem wM_thread {p : Program} {l : Launch} {e : Env} {s : State} {m : MethodId} {args : Array Value} {below : List Frame} {meth : Method} {c : Code} (cx : mp_C p s m args meth c bM_thread 5 (some .int) rM) (k : KK) (ad : Nat → Nat) (S : SM) (a1 : Int32) (a2 : Int64) (z : (Int32 × SM)) (hE : mp_E k s) (hAN : ∀ q, mp_A (aM ad) q → mp_N k q) {H : Heap} {locs : List Loc} (hP : va_P (kD k) mp_cls (cM k ad S) H) (hD : va_D (mp_A (aM ad)) (cM k ad S)) (hS : va_S (mp_A (aM ad)) s.heap H locs) (h : fM_thread S a1 a2 = some z) (ls : Array Slot) (hl : lv_has ls 5 [(0, .ref (ad 0)), (1, .int a1), (2, .long a2)]) : W p l e rmM_thread s m args below meth c H locs 0 0 (MQ below (mp_Qm k (some (.int z.1)) (cM k ad z.2) (aM ad)) args s 0 0 (mp_A (aM ad))) (F0 m 0 ls []) := by
  obtain ⟨hx, hb, -, hml, hown, hts, -⟩ := id cx
  unfold fM_thread at h
  refine lv_aload_n hx hb dM_thread_0 rfl (lv_at hl 0 rfl) ?_
  refine mp_gM cx hE hP iM 0 rfl 0 (by decide) wq_96 rfl (v := .ref (ad 1)) rfl dM_thread_1 ?_
  refine lv_iload_n hx hb dM_thread_4 rfl (lv_at hl 1 rfl) ?_
  obtain ⟨x1, ex1, h⟩ := mp_bs h
  refine mp_si (mp_runV (As := [.int a1]) (rest := []) cx kV_M_31 (cW_isPlace l k (fun i => ad (i + 1)) S.1 a1 x1 ex1) ⟨rfl, rfl, Nat.le_of_ble_eq_true rfl, Nat.le_of_ble_eq_true rfl⟩ ⟨Nat.zero_le _, Nat.zero_le _⟩ hE (pM_now (S := S) hP) (dM_now (S := S) (mp_Dw hD hAN)) (mp_S hS hAN) 0 rfl rfl rfl hl.1 rfl (Nat.le_of_ble_eq_true rfl) dM_thread_5) ?_
  refine lv_if_ne (tgt := 13) hx hb dM_thread_8 (by decide) (fun c2 => ?_) (fun c2 => ?_)
  · have h := mp_f c2 h
    refine lv_lload_n hx hb dM_thread_13 rfl (lv_at hl 2 rfl) ?_
    obtain ⟨x3, ex3, h⟩ := mp_bs h
    refine mp_si (mp_runT (As := [.long a2]) (rest := []) cx kT_M_42 (cM_countActs l k a2 x3 ex3) ⟨rfl, rfl, Nat.le_of_ble_eq_true rfl, Nat.le_of_ble_eq_true rfl⟩ ⟨Nat.zero_le _, Nat.zero_le _⟩ hE mp_P0 mp_D0 (mp_S hS hAN) hl.1 rfl (Nat.le_of_ble_eq_true rfl) dM_thread_14) ?_
    refine lv_istore (lv' := [(4, .int x3), (0, .ref (ad 0)), (1, .int a1), (2, .long a2)]) hx hb dM_thread_17 hl (by decide) rfl (fun ls hl => ?_)
    refine lv_iload hx hb dM_thread_19 (lv_at hl 0 rfl) ?_
    refine lv_if_ne (tgt := 27) hx hb dM_thread_21 (by decide) (fun c4 => ?_) (fun c4 => ?_)
    · have h := mp_f c4 h
      refine lv_aload_n hx hb dM_thread_27 rfl (lv_at hl 1 rfl) ?_
      refine mp_gM cx hE hP iM 0 rfl 0 (by decide) wq_96 rfl (v := .ref (ad 1)) rfl dM_thread_28 ?_
      refine lv_iload_n hx hb dM_thread_31 rfl (lv_at hl 2 rfl) ?_
      refine lv_lload_n hx hb dM_thread_32 rfl (lv_at hl 3 rfl) ?_
      refine lv_iload hx hb dM_thread_33 (lv_at hl 0 rfl) ?_
      obtain ⟨x5, ex5, h⟩ := mp_bs h
      refine mp_mi (mp_runV (As := [.int a1, .long a2, .int x3]) (rest := []) cx kV_M_46 (cW_addThread l k (fun i => ad (i + 1)) S.1 a1 a2 x3 x5 ex5) ⟨rfl, rfl, Nat.le_of_ble_eq_true rfl, Nat.le_of_ble_eq_true rfl⟩ ⟨Nat.zero_le _, Nat.zero_le _⟩ hE (pM_now (S := S) hP) (dM_now (S := S) (mp_Dw hD hAN)) (mp_S hS hAN) 0 rfl rfl rfl hl.1 rfl (Nat.le_of_ble_eq_true rfl) dM_thread_35) hS (fun q h9 => mp_new (dM_now (S := S) hD) rfl q h9) (fun H1 locs hP1 hk hS => ?_)
      have hP : va_P (kD k) mp_cls (cM k ad (x5.2, S.2.1, S.2.2.1, S.2.2.2.1, S.2.2.2.2.1, S.2.2.2.2.2.1, S.2.2.2.2.2.2)) H1 := jM_now (S := S) hP hD hk hP1
      have hD : va_D (mp_A (aM ad)) (cM k ad (x5.2, S.2.1, S.2.2.1, S.2.2.2.1, S.2.2.2.2.1, S.2.2.2.2.2.1, S.2.2.2.2.2.2)) := mp_Ds hD rfl
      exact mp_rim (cf := cM k ad) cx h hP hS dM_thread_38
    · have h := mp_t c4 h
      refine lv_bipush (v := (-2)) hx hb dM_thread_24 (by decide) ?_
      exact mp_rim (cf := cM k ad) cx h hP hS dM_thread_26
  · have h := mp_t c2 h
    refine lv_iconst (v := (-1)) hx hb dM_thread_11 (by decide) ?_
    exact mp_rim (cf := cM k ad) cx h hP hS dM_thread_12
theorem cM_thread (l : Launch) (k : KK) (ad : Nat → Nat) (S : SM) (a1 : Int32) (a2 : Int64) (z : (Int32 × SM)) (h : fM_thread S a1 a2 = some z) : mp_CM l k yM_thread bM_thread 5 (some .int) rmM_thread [.ref (ad 0), .int a1, .long a2] (cM k ad S) (cM k ad z.2) (aM ad) (some (.int z.1)) := by
  refine Met.ofW (cc := bM_thread) (maxL := 5) (ret := (some .int)) (by decide) rfl ?_
  intro p e s m args below meth c s₁ B hml hv
  obtain ⟨rfl, hP, hD, hE⟩ := hv
  have hl := lv_entry ([.ref (ad 0), .int a1, .long a2]) (n := 5) (Nat.le_of_ble_eq_true rfl)
  rw [lg_entry_eq]
  generalize (lg_sl ([.ref (ad 0), .int a1, .long a2]) ++ List.replicate (5 - (lg_sl ([.ref (ad 0), .int a1, .long a2])).length) Slot.unset).toArray = ls at hl ⊢
  exact wM_thread (mp_C.of B hml) k ad S a1 a2 z hE (mp_new hD rfl) hP (mp_own hD rfl) va_S.rf h ls hl
-- MovingPlaces.seal
abbrev rmM_seal : Room := { frames := 2, cells := 0, slots := 0, locals := 42 }
def fM_seal (S : SM) (a1 : Int32) (a2 : Int32) : Option (Int32 × SM) := (fW_isPlace S.1 a1).bind fun x1 => (if x1 = 0 then some ((-1), S) else (if a1 = 0 then some ((-3), S) else (fW_isSealed S.1 a1).bind fun x4 => (if x4 = a2 then some (0, S) else (fW_turnSeal S.1 a1).bind fun x6 => some (1, (x6, S.2.1, S.2.2.1, S.2.2.2.1, S.2.2.2.2.1, S.2.2.2.2.2.1, S.2.2.2.2.2.2)))))
set_option maxHeartbeats 4000000 in
set_option maxRecDepth 100000 in
theorem wM_seal {p : Program} {l : Launch} {e : Env} {s : State} {m : MethodId} {args : Array Value} {below : List Frame} {meth : Method} {c : Code} (cx : mp_C p s m args meth c bM_seal 3 (some .int) rM) (k : KK) (ad : Nat → Nat) (S : SM) (a1 : Int32) (a2 : Int32) (z : (Int32 × SM)) (hE : mp_E k s) (hAN : ∀ q, mp_A (aM ad) q → mp_N k q) {H : Heap} {locs : List Loc} (hP : va_P (kD k) mp_cls (cM k ad S) H) (hD : va_D (mp_A (aM ad)) (cM k ad S)) (hS : va_S (mp_A (aM ad)) s.heap H locs) (h : fM_seal S a1 a2 = some z) (ls : Array Slot) (hl : lv_has ls 3 [(0, .ref (ad 0)), (1, .int a1), (2, .int a2)]) : W p l e rmM_seal s m args below meth c H locs 0 0 (MQ below (mp_Qm k (some (.int z.1)) (cM k ad z.2) (aM ad)) args s 0 0 (mp_A (aM ad))) (F0 m 0 ls []) := by
  obtain ⟨hx, hb, -, hml, hown, hts, -⟩ := id cx
  unfold fM_seal at h
  refine lv_aload_n hx hb dM_seal_0 rfl (lv_at hl 0 rfl) ?_
  refine mp_gM cx hE hP iM 0 rfl 0 (by decide) wq_96 rfl (v := .ref (ad 1)) rfl dM_seal_1 ?_
  refine lv_iload_n hx hb dM_seal_4 rfl (lv_at hl 1 rfl) ?_
  obtain ⟨x1, ex1, h⟩ := mp_bs h
  refine mp_si (mp_runV (As := [.int a1]) (rest := []) cx kV_M_31 (cW_isPlace l k (fun i => ad (i + 1)) S.1 a1 x1 ex1) ⟨rfl, rfl, Nat.le_of_ble_eq_true rfl, Nat.le_of_ble_eq_true rfl⟩ ⟨Nat.zero_le _, Nat.zero_le _⟩ hE (pM_now (S := S) hP) (dM_now (S := S) (mp_Dw hD hAN)) (mp_S hS hAN) 0 rfl rfl rfl hl.1 rfl (Nat.le_of_ble_eq_true rfl) dM_seal_5) ?_
  refine lv_if_ne (tgt := 13) hx hb dM_seal_8 (by decide) (fun c2 => ?_) (fun c2 => ?_)
  · have h := mp_f c2 h
    refine lv_iload_n hx hb dM_seal_13 rfl (lv_at hl 1 rfl) ?_
    refine lv_if_ne (tgt := 20) hx hb dM_seal_14 (by decide) (fun c3 => ?_) (fun c3 => ?_)
    · have h := mp_f c3 h
      refine lv_aload_n hx hb dM_seal_20 rfl (lv_at hl 0 rfl) ?_
      refine mp_gM cx hE hP iM 0 rfl 0 (by decide) wq_96 rfl (v := .ref (ad 1)) rfl dM_seal_21 ?_
      refine lv_iload_n hx hb dM_seal_24 rfl (lv_at hl 1 rfl) ?_
      obtain ⟨x4, ex4, h⟩ := mp_bs h
      refine mp_si (mp_runV (As := [.int a1]) (rest := []) cx kV_M_50 (cW_isSealed l k (fun i => ad (i + 1)) S.1 a1 x4 ex4) ⟨rfl, rfl, Nat.le_of_ble_eq_true rfl, Nat.le_of_ble_eq_true rfl⟩ ⟨Nat.zero_le _, Nat.zero_le _⟩ hE (pM_now (S := S) hP) (dM_now (S := S) (mp_Dw hD hAN)) (mp_S hS hAN) 0 rfl rfl rfl hl.1 rfl (Nat.le_of_ble_eq_true rfl) dM_seal_25) ?_
      refine lv_iload_n hx hb dM_seal_28 rfl (lv_at hl 2 rfl) ?_
      refine lv_icmp_ne (tgt := 34) hx hb dM_seal_29 (by decide) (fun c5 => ?_) (fun c5 => ?_)
      · have h := mp_f c5 h
        refine lv_aload_n hx hb dM_seal_34 rfl (lv_at hl 0 rfl) ?_
        refine mp_gM cx hE hP iM 0 rfl 0 (by decide) wq_96 rfl (v := .ref (ad 1)) rfl dM_seal_35 ?_
        refine lv_iload_n hx hb dM_seal_38 rfl (lv_at hl 1 rfl) ?_
        obtain ⟨x6, ex6, h⟩ := mp_bs h
        refine mp_mv (mp_runV (As := [.int a1]) (rest := []) cx kV_M_53 (cW_turnSeal l k (fun i => ad (i + 1)) S.1 a1 x6 ex6) ⟨rfl, rfl, Nat.le_of_ble_eq_true rfl, Nat.le_of_ble_eq_true rfl⟩ ⟨Nat.zero_le _, Nat.zero_le _⟩ hE (pM_now (S := S) hP) (dM_now (S := S) (mp_Dw hD hAN)) (mp_S hS hAN) 0 rfl rfl rfl hl.1 rfl (Nat.le_of_ble_eq_true rfl) dM_seal_39) hS (fun q h9 => mp_new (dM_now (S := S) hD) rfl q h9) (fun H1 locs hP1 hk hS => ?_)
        have hP : va_P (kD k) mp_cls (cM k ad (x6, S.2.1, S.2.2.1, S.2.2.2.1, S.2.2.2.2.1, S.2.2.2.2.2.1, S.2.2.2.2.2.2)) H1 := jM_now (S := S) hP hD hk hP1
        have hD : va_D (mp_A (aM ad)) (cM k ad (x6, S.2.1, S.2.2.1, S.2.2.2.1, S.2.2.2.2.1, S.2.2.2.2.2.1, S.2.2.2.2.2.2)) := mp_Ds hD rfl
        refine lv_iconst (v := 1) hx hb dM_seal_42 (by decide) ?_
        exact mp_rim (cf := cM k ad) cx h hP hS dM_seal_43
      · have h := mp_t c5 h
        refine lv_iconst (v := 0) hx hb dM_seal_32 (by decide) ?_
        exact mp_rim (cf := cM k ad) cx h hP hS dM_seal_33
    · have h := mp_t c3 h
      refine lv_bipush (v := (-3)) hx hb dM_seal_17 (by decide) ?_
      exact mp_rim (cf := cM k ad) cx h hP hS dM_seal_19
  · have h := mp_t c2 h
    refine lv_iconst (v := (-1)) hx hb dM_seal_11 (by decide) ?_
    exact mp_rim (cf := cM k ad) cx h hP hS dM_seal_12
theorem cM_seal (l : Launch) (k : KK) (ad : Nat → Nat) (S : SM) (a1 : Int32) (a2 : Int32) (z : (Int32 × SM)) (h : fM_seal S a1 a2 = some z) : mp_CM l k yM_seal bM_seal 3 (some .int) rmM_seal [.ref (ad 0), .int a1, .int a2] (cM k ad S) (cM k ad z.2) (aM ad) (some (.int z.1)) := by
  refine Met.ofW (cc := bM_seal) (maxL := 3) (ret := (some .int)) (by decide) rfl ?_
  intro p e s m args below meth c s₁ B hml hv
  obtain ⟨rfl, hP, hD, hE⟩ := hv
  have hl := lv_entry ([.ref (ad 0), .int a1, .int a2]) (n := 3) (Nat.le_of_ble_eq_true rfl)
  rw [lg_entry_eq]
  generalize (lg_sl ([.ref (ad 0), .int a1, .int a2]) ++ List.replicate (3 - (lg_sl ([.ref (ad 0), .int a1, .int a2])).length) Slot.unset).toArray = ls at hl ⊢
  exact wM_seal (mp_C.of B hml) k ad S a1 a2 z hE (mp_new hD rfl) hP (mp_own hD rfl) va_S.rf h ls hl
-- MovingPlaces.message
abbrev rmM_message : Room := { frames := 2, cells := 0, slots := 0, locals := 44 }
def fM_message (S : SM) (a1 : Int32) (a2 : Int32) : Option (Int32 × SM) := (fW_isPlace S.1 a1).bind fun x1 => (if x1 = 0 then some ((-1), S) else (fM_isName a2).bind fun x3 => (if x3 = 0 then some ((-1), S) else (fW_messagesOf S.1 a1 a2).bind fun x5 => (if x5 < 90 then (fW_addMessages S.1 a1 a2 1).bind fun x7 => (fW_messagesOf x7 a1 a2).bind fun x8 => some (x8, (x7, S.2.1, S.2.2.1, S.2.2.2.1, S.2.2.2.2.1, S.2.2.2.2.2.1, S.2.2.2.2.2.2)) else some ((-4), S))))
set_option maxHeartbeats 4000000 in
set_option maxRecDepth 100000 in
theorem wM_message {p : Program} {l : Launch} {e : Env} {s : State} {m : MethodId} {args : Array Value} {below : List Frame} {meth : Method} {c : Code} (cx : mp_C p s m args meth c bM_message 3 (some .int) rM) (k : KK) (ad : Nat → Nat) (S : SM) (a1 : Int32) (a2 : Int32) (z : (Int32 × SM)) (hE : mp_E k s) (hAN : ∀ q, mp_A (aM ad) q → mp_N k q) {H : Heap} {locs : List Loc} (hP : va_P (kD k) mp_cls (cM k ad S) H) (hD : va_D (mp_A (aM ad)) (cM k ad S)) (hS : va_S (mp_A (aM ad)) s.heap H locs) (h : fM_message S a1 a2 = some z) (ls : Array Slot) (hl : lv_has ls 3 [(0, .ref (ad 0)), (1, .int a1), (2, .int a2)]) : W p l e rmM_message s m args below meth c H locs 0 0 (MQ below (mp_Qm k (some (.int z.1)) (cM k ad z.2) (aM ad)) args s 0 0 (mp_A (aM ad))) (F0 m 0 ls []) := by
  obtain ⟨hx, hb, -, hml, hown, hts, -⟩ := id cx
  unfold fM_message at h
  refine lv_aload_n hx hb dM_message_0 rfl (lv_at hl 0 rfl) ?_
  refine mp_gM cx hE hP iM 0 rfl 0 (by decide) wq_96 rfl (v := .ref (ad 1)) rfl dM_message_1 ?_
  refine lv_iload_n hx hb dM_message_4 rfl (lv_at hl 1 rfl) ?_
  obtain ⟨x1, ex1, h⟩ := mp_bs h
  refine mp_si (mp_runV (As := [.int a1]) (rest := []) cx kV_M_31 (cW_isPlace l k (fun i => ad (i + 1)) S.1 a1 x1 ex1) ⟨rfl, rfl, Nat.le_of_ble_eq_true rfl, Nat.le_of_ble_eq_true rfl⟩ ⟨Nat.zero_le _, Nat.zero_le _⟩ hE (pM_now (S := S) hP) (dM_now (S := S) (mp_Dw hD hAN)) (mp_S hS hAN) 0 rfl rfl rfl hl.1 rfl (Nat.le_of_ble_eq_true rfl) dM_message_5) ?_
  refine lv_if_eq (tgt := 18) hx hb dM_message_8 (by decide) (fun c2 => ?_) (fun c2 => ?_)
  · have h := mp_t c2 h
    refine lv_iconst (v := (-1)) hx hb dM_message_18 (by decide) ?_
    exact mp_rim (cf := cM k ad) cx h hP hS dM_message_19
  · have h := mp_f c2 h
    refine lv_iload_n hx hb dM_message_11 rfl (lv_at hl 2 rfl) ?_
    obtain ⟨x3, ex3, h⟩ := mp_bs h
    refine mp_si (mp_runT (As := [.int a2]) (rest := []) cx kT_M_35 (cM_isName l k a2 x3 ex3) ⟨rfl, rfl, Nat.le_of_ble_eq_true rfl, Nat.le_of_ble_eq_true rfl⟩ ⟨Nat.zero_le _, Nat.zero_le _⟩ hE mp_P0 mp_D0 (mp_S hS hAN) hl.1 rfl (Nat.le_of_ble_eq_true rfl) dM_message_12) ?_
    refine lv_if_ne (tgt := 20) hx hb dM_message_15 (by decide) (fun c4 => ?_) (fun c4 => ?_)
    · have h := mp_f c4 h
      refine lv_aload_n hx hb dM_message_20 rfl (lv_at hl 0 rfl) ?_
      refine mp_gM cx hE hP iM 0 rfl 0 (by decide) wq_96 rfl (v := .ref (ad 1)) rfl dM_message_21 ?_
      refine lv_iload_n hx hb dM_message_24 rfl (lv_at hl 1 rfl) ?_
      refine lv_iload_n hx hb dM_message_25 rfl (lv_at hl 2 rfl) ?_
      obtain ⟨x5, ex5, h⟩ := mp_bs h
      refine mp_si (mp_runV (As := [.int a1, .int a2]) (rest := []) cx kV_M_57 (cW_messagesOf l k (fun i => ad (i + 1)) S.1 a1 a2 x5 ex5) ⟨rfl, rfl, Nat.le_of_ble_eq_true rfl, Nat.le_of_ble_eq_true rfl⟩ ⟨Nat.zero_le _, Nat.zero_le _⟩ hE (pM_now (S := S) hP) (dM_now (S := S) (mp_Dw hD hAN)) (mp_S hS hAN) 0 rfl rfl rfl hl.1 rfl (Nat.le_of_ble_eq_true rfl) dM_message_26) ?_
      refine lv_bipush (v := 90) hx hb dM_message_29 (by decide) ?_
      refine lv_icmp_lt (tgt := 37) hx hb dM_message_31 (by decide) (fun c6 => ?_) (fun c6 => ?_)
      · have h := mp_t c6 h
        refine lv_aload_n hx hb dM_message_37 rfl (lv_at hl 0 rfl) ?_
        refine mp_gM cx hE hP iM 0 rfl 0 (by decide) wq_96 rfl (v := .ref (ad 1)) rfl dM_message_38 ?_
        refine lv_iload_n hx hb dM_message_41 rfl (lv_at hl 1 rfl) ?_
        refine lv_iload_n hx hb dM_message_42 rfl (lv_at hl 2 rfl) ?_
        refine lv_iconst (v := 1) hx hb dM_message_43 (by decide) ?_
        obtain ⟨x7, ex7, h⟩ := mp_bs h
        refine mp_mv (mp_runV (As := [.int a1, .int a2, .int 1]) (rest := []) cx kV_M_60 (cW_addMessages l k (fun i => ad (i + 1)) S.1 a1 a2 1 x7 ex7) ⟨rfl, rfl, Nat.le_of_ble_eq_true rfl, Nat.le_of_ble_eq_true rfl⟩ ⟨Nat.zero_le _, Nat.zero_le _⟩ hE (pM_now (S := S) hP) (dM_now (S := S) (mp_Dw hD hAN)) (mp_S hS hAN) 0 rfl rfl rfl hl.1 rfl (Nat.le_of_ble_eq_true rfl) dM_message_44) hS (fun q h9 => mp_new (dM_now (S := S) hD) rfl q h9) (fun H1 locs hP1 hk hS => ?_)
        have hP : va_P (kD k) mp_cls (cM k ad (x7, S.2.1, S.2.2.1, S.2.2.2.1, S.2.2.2.2.1, S.2.2.2.2.2.1, S.2.2.2.2.2.2)) H1 := jM_now (S := S) hP hD hk hP1
        have hD : va_D (mp_A (aM ad)) (cM k ad (x7, S.2.1, S.2.2.1, S.2.2.2.1, S.2.2.2.2.1, S.2.2.2.2.2.1, S.2.2.2.2.2.2)) := mp_Ds hD rfl
        refine lv_aload_n hx hb dM_message_47 rfl (lv_at hl 0 rfl) ?_
        refine mp_gM cx hE hP iM 0 rfl 0 (by decide) wq_96 rfl (v := .ref (ad 1)) rfl dM_message_48 ?_
        refine lv_iload_n hx hb dM_message_51 rfl (lv_at hl 1 rfl) ?_
        refine lv_iload_n hx hb dM_message_52 rfl (lv_at hl 2 rfl) ?_
        obtain ⟨x8, ex8, h⟩ := mp_bs h
        refine mp_si (mp_runV (As := [.int a1, .int a2]) (rest := []) cx kV_M_57 (cW_messagesOf l k (fun i => ad (i + 1)) x7 a1 a2 x8 ex8) ⟨rfl, rfl, Nat.le_of_ble_eq_true rfl, Nat.le_of_ble_eq_true rfl⟩ ⟨Nat.zero_le _, Nat.zero_le _⟩ hE (pM_now (S := (x7, S.2.1, S.2.2.1, S.2.2.2.1, S.2.2.2.2.1, S.2.2.2.2.2.1, S.2.2.2.2.2.2)) hP) (dM_now (S := (x7, S.2.1, S.2.2.1, S.2.2.2.1, S.2.2.2.2.1, S.2.2.2.2.2.1, S.2.2.2.2.2.2)) (mp_Dw hD hAN)) (mp_S hS hAN) 0 rfl rfl rfl hl.1 rfl (Nat.le_of_ble_eq_true rfl) dM_message_53) ?_
        exact mp_rim (cf := cM k ad) cx h hP hS dM_message_56
      · have h := mp_f c6 h
        refine lv_bipush (v := (-4)) hx hb dM_message_34 (by decide) ?_
        exact mp_rim (cf := cM k ad) cx h hP hS dM_message_36
    · have h := mp_t c4 h
      refine lv_iconst (v := (-1)) hx hb dM_message_18 (by decide) ?_
      exact mp_rim (cf := cM k ad) cx h hP hS dM_message_19
theorem cM_message (l : Launch) (k : KK) (ad : Nat → Nat) (S : SM) (a1 : Int32) (a2 : Int32) (z : (Int32 × SM)) (h : fM_message S a1 a2 = some z) : mp_CM l k yM_message bM_message 3 (some .int) rmM_message [.ref (ad 0), .int a1, .int a2] (cM k ad S) (cM k ad z.2) (aM ad) (some (.int z.1)) := by
  refine Met.ofW (cc := bM_message) (maxL := 3) (ret := (some .int)) (by decide) rfl ?_
  intro p e s m args below meth c s₁ B hml hv
  obtain ⟨rfl, hP, hD, hE⟩ := hv
  have hl := lv_entry ([.ref (ad 0), .int a1, .int a2]) (n := 3) (Nat.le_of_ble_eq_true rfl)
  rw [lg_entry_eq]
  generalize (lg_sl ([.ref (ad 0), .int a1, .int a2]) ++ List.replicate (3 - (lg_sl ([.ref (ad 0), .int a1, .int a2])).length) Slot.unset).toArray = ls at hl ⊢
  exact wM_message (mp_C.of B hml) k ad S a1 a2 z hE (mp_new hD rfl) hP (mp_own hD rfl) va_S.rf h ls hl
-- MovingPlaces.ofPlace
abbrev rmM_ofPlace : Room := { frames := 3, cells := 0, slots := 0, locals := 65 }
def fM_ofPlace (S : SM) (a1 : Int32) (a2 : Int32) : Option Int32 := (fW_isPlace S.1 a1).bind fun x1 => (if x1 = 0 then some (-1) else (if a2 = 0 then (fW_nameOf S.1 a1).bind fun x4 => some x4 else if a2 = 1 then (fW_placeAround S.1 a1).bind fun x6 => some x6 else if a2 = 2 then (fW_isSealed S.1 a1).bind fun x8 => (if x8 = 0 then some 0 else some 1) else if a2 = 3 then (fW_placesIn S.1 a1).bind fun x11 => some x11 else if a2 = 4 then (fW_threadsIn S.1 a1).bind fun x13 => some x13 else if a2 = 5 then (fW_depthOf S.1 a1).bind fun x15 => some x15 else (if a2 < 10 then some (-2) else (if 16 ≤ a2 then some (-2) else (fW_messagesOf S.1 a1 (a2 - 10)).bind fun x18 => some x18))))
set_option maxHeartbeats 4000000 in
set_option maxRecDepth 100000 in
theorem wM_ofPlace {p : Program} {l : Launch} {e : Env} {s : State} {m : MethodId} {args : Array Value} {below : List Frame} {meth : Method} {c : Code} (cx : mp_C p s m args meth c bM_ofPlace 3 (some .int) rM) (k : KK) (ad : Nat → Nat) (S : SM) (a1 : Int32) (a2 : Int32) (z : Int32) (hE : mp_E k s) (hP : va_P (kD k) mp_cls (cM k ad S) s.heap) (hD : va_D (mp_N k) (cM k ad S)) (h : fM_ofPlace S a1 a2 = some z) (ls : Array Slot) (hl : lv_has ls 3 [(0, .ref (ad 0)), (1, .int a1), (2, .int a2)]) : W p l e rmM_ofPlace s m args below meth c s.heap [] 0 0 (MQ below (mp_Qs (some (.int z))) args s 0 0 (fun _ => False)) (F0 m 0 ls []) := by
  obtain ⟨hx, hb, -, hml, hown, hts, -⟩ := id cx
  unfold fM_ofPlace at h
  refine lv_aload_n hx hb dM_ofPlace_0 rfl (lv_at hl 0 rfl) ?_
  refine mp_gM cx hE hP iM 0 rfl 0 (by decide) wq_96 rfl (v := .ref (ad 1)) rfl dM_ofPlace_1 ?_
  refine lv_iload_n hx hb dM_ofPlace_4 rfl (lv_at hl 1 rfl) ?_
  obtain ⟨x1, ex1, h⟩ := mp_bs h
  refine mp_si (mp_runV (As := [.int a1]) (rest := []) cx kV_M_31 (cW_isPlace l k (fun i => ad (i + 1)) S.1 a1 x1 ex1) ⟨rfl, rfl, Nat.le_of_ble_eq_true rfl, Nat.le_of_ble_eq_true rfl⟩ ⟨Nat.zero_le _, Nat.zero_le _⟩ hE (pM_now (S := S) hP) (dM_now (S := S) hD) va_S.rf 0 rfl rfl rfl hl.1 rfl (Nat.le_of_ble_eq_true rfl) dM_ofPlace_5) ?_
  refine lv_if_ne (tgt := 13) hx hb dM_ofPlace_8 (by decide) (fun c2 => ?_) (fun c2 => ?_)
  · have h := mp_f c2 h
    refine lv_iload_n hx hb dM_ofPlace_13 rfl (lv_at hl 2 rfl) ?_
    by_cases c3 : a2 = 0
    · have h := mp_t c3 h
      refine lv_tableIn (off := 38) (tgt := 52) hx hb dM_ofPlace_14 (by rw [c3]; decide) (by rw [c3]; decide) (by rw [c3]; rfl) (by decide) ?_
      refine lv_aload_n hx hb dM_ofPlace_52 rfl (lv_at hl 0 rfl) ?_
      refine mp_gM cx hE hP iM 0 rfl 0 (by decide) wq_96 rfl (v := .ref (ad 1)) rfl dM_ofPlace_53 ?_
      refine lv_iload_n hx hb dM_ofPlace_56 rfl (lv_at hl 1 rfl) ?_
      obtain ⟨x4, ex4, h⟩ := mp_bs h
      refine mp_si (mp_runV (As := [.int a1]) (rest := []) cx kV_M_64 (cW_nameOf l k (fun i => ad (i + 1)) S.1 a1 x4 ex4) ⟨rfl, rfl, Nat.le_of_ble_eq_true rfl, Nat.le_of_ble_eq_true rfl⟩ ⟨Nat.zero_le _, Nat.zero_le _⟩ hE (pM_now (S := S) hP) (dM_now (S := S) hD) va_S.rf 0 rfl rfl rfl hl.1 rfl (Nat.le_of_ble_eq_true rfl) dM_ofPlace_57) ?_
      exact mp_ri cx h dM_ofPlace_60
    have h := mp_f c3 h
    by_cases c5 : a2 = 1
    · have h := mp_t c5 h
      refine lv_tableIn (off := 47) (tgt := 61) hx hb dM_ofPlace_14 (by rw [c5]; decide) (by rw [c5]; decide) (by rw [c5]; rfl) (by decide) ?_
      refine lv_aload_n hx hb dM_ofPlace_61 rfl (lv_at hl 0 rfl) ?_
      refine mp_gM cx hE hP iM 0 rfl 0 (by decide) wq_96 rfl (v := .ref (ad 1)) rfl dM_ofPlace_62 ?_
      refine lv_iload_n hx hb dM_ofPlace_65 rfl (lv_at hl 1 rfl) ?_
      obtain ⟨x6, ex6, h⟩ := mp_bs h
      refine mp_si (mp_runV (As := [.int a1]) (rest := []) cx kV_M_68 (cW_placeAround l k (fun i => ad (i + 1)) S.1 a1 x6 ex6) ⟨rfl, rfl, Nat.le_of_ble_eq_true rfl, Nat.le_of_ble_eq_true rfl⟩ ⟨Nat.zero_le _, Nat.zero_le _⟩ hE (pM_now (S := S) hP) (dM_now (S := S) hD) va_S.rf 0 rfl rfl rfl hl.1 rfl (Nat.le_of_ble_eq_true rfl) dM_ofPlace_66) ?_
      exact mp_ri cx h dM_ofPlace_69
    have h := mp_f c5 h
    by_cases c7 : a2 = 2
    · have h := mp_t c7 h
      refine lv_tableIn (off := 56) (tgt := 70) hx hb dM_ofPlace_14 (by rw [c7]; decide) (by rw [c7]; decide) (by rw [c7]; rfl) (by decide) ?_
      refine lv_aload_n hx hb dM_ofPlace_70 rfl (lv_at hl 0 rfl) ?_
      refine mp_gM cx hE hP iM 0 rfl 0 (by decide) wq_96 rfl (v := .ref (ad 1)) rfl dM_ofPlace_71 ?_
      refine lv_iload_n hx hb dM_ofPlace_74 rfl (lv_at hl 1 rfl) ?_
      obtain ⟨x8, ex8, h⟩ := mp_bs h
      refine mp_si (mp_runV (As := [.int a1]) (rest := []) cx kV_M_50 (cW_isSealed l k (fun i => ad (i + 1)) S.1 a1 x8 ex8) ⟨rfl, rfl, Nat.le_of_ble_eq_true rfl, Nat.le_of_ble_eq_true rfl⟩ ⟨Nat.zero_le _, Nat.zero_le _⟩ hE (pM_now (S := S) hP) (dM_now (S := S) hD) va_S.rf 0 rfl rfl rfl hl.1 rfl (Nat.le_of_ble_eq_true rfl) dM_ofPlace_75) ?_
      refine lv_if_eq (tgt := 85) hx hb dM_ofPlace_78 (by decide) (fun c9 => ?_) (fun c9 => ?_)
      · have h := mp_t c9 h
        refine lv_iconst (v := 0) hx hb dM_ofPlace_85 (by decide) ?_
        exact mp_ri cx h dM_ofPlace_86
      · have h := mp_f c9 h
        refine lv_iconst (v := 1) hx hb dM_ofPlace_81 (by decide) ?_
        refine lv_goto (tgt := 86) hx hb dM_ofPlace_82 (by decide) ?_
        exact mp_ri cx h dM_ofPlace_86
    have h := mp_f c7 h
    by_cases c10 : a2 = 3
    · have h := mp_t c10 h
      refine lv_tableIn (off := 73) (tgt := 87) hx hb dM_ofPlace_14 (by rw [c10]; decide) (by rw [c10]; decide) (by rw [c10]; rfl) (by decide) ?_
      refine lv_aload_n hx hb dM_ofPlace_87 rfl (lv_at hl 0 rfl) ?_
      refine mp_gM cx hE hP iM 0 rfl 0 (by decide) wq_96 rfl (v := .ref (ad 1)) rfl dM_ofPlace_88 ?_
      refine lv_iload_n hx hb dM_ofPlace_91 rfl (lv_at hl 1 rfl) ?_
      obtain ⟨x11, ex11, h⟩ := mp_bs h
      refine mp_si (mp_runV (As := [.int a1]) (rest := []) cx kV_M_71 (cW_placesIn l k (fun i => ad (i + 1)) S.1 a1 x11 ex11) ⟨rfl, rfl, Nat.le_of_ble_eq_true rfl, Nat.le_of_ble_eq_true rfl⟩ ⟨Nat.zero_le _, Nat.zero_le _⟩ hE (pM_now (S := S) hP) (dM_now (S := S) hD) va_S.rf 0 rfl rfl rfl hl.1 rfl (Nat.le_of_ble_eq_true rfl) dM_ofPlace_92) ?_
      exact mp_ri cx h dM_ofPlace_95
    have h := mp_f c10 h
    by_cases c12 : a2 = 4
    · have h := mp_t c12 h
      refine lv_tableIn (off := 82) (tgt := 96) hx hb dM_ofPlace_14 (by rw [c12]; decide) (by rw [c12]; decide) (by rw [c12]; rfl) (by decide) ?_
      refine lv_aload_n hx hb dM_ofPlace_96 rfl (lv_at hl 0 rfl) ?_
      refine mp_gM cx hE hP iM 0 rfl 0 (by decide) wq_96 rfl (v := .ref (ad 1)) rfl dM_ofPlace_97 ?_
      refine lv_iload_n hx hb dM_ofPlace_100 rfl (lv_at hl 1 rfl) ?_
      obtain ⟨x13, ex13, h⟩ := mp_bs h
      refine mp_si (mp_runV (As := [.int a1]) (rest := []) cx kV_M_74 (cW_threadsIn l k (fun i => ad (i + 1)) S.1 a1 x13 ex13) ⟨rfl, rfl, Nat.le_of_ble_eq_true rfl, Nat.le_of_ble_eq_true rfl⟩ ⟨Nat.zero_le _, Nat.zero_le _⟩ hE (pM_now (S := S) hP) (dM_now (S := S) hD) va_S.rf 0 rfl rfl rfl hl.1 rfl (Nat.le_of_ble_eq_true rfl) dM_ofPlace_101) ?_
      exact mp_ri cx h dM_ofPlace_104
    have h := mp_f c12 h
    by_cases c14 : a2 = 5
    · have h := mp_t c14 h
      refine lv_tableIn (off := 91) (tgt := 105) hx hb dM_ofPlace_14 (by rw [c14]; decide) (by rw [c14]; decide) (by rw [c14]; rfl) (by decide) ?_
      refine lv_aload_n hx hb dM_ofPlace_105 rfl (lv_at hl 0 rfl) ?_
      refine mp_gM cx hE hP iM 0 rfl 0 (by decide) wq_96 rfl (v := .ref (ad 1)) rfl dM_ofPlace_106 ?_
      refine lv_iload_n hx hb dM_ofPlace_109 rfl (lv_at hl 1 rfl) ?_
      obtain ⟨x15, ex15, h⟩ := mp_bs h
      refine mp_si (mp_runV (As := [.int a1]) (rest := []) cx kV_M_77 (cW_depthOf l k (fun i => ad (i + 1)) S.1 a1 x15 ex15) ⟨rfl, rfl, Nat.le_of_ble_eq_true rfl, Nat.le_of_ble_eq_true rfl⟩ ⟨Nat.zero_le _, Nat.zero_le _⟩ hE (pM_now (S := S) hP) (dM_now (S := S) hD) va_S.rf 0 rfl rfl rfl hl.1 rfl (Nat.le_of_ble_eq_true rfl) dM_ofPlace_110) ?_
      exact mp_ri cx h dM_ofPlace_113
    have h := mp_f c14 h
    have qc3 : (a2).toInt ≠ 0 := mp_ne c3
    have qc5 : (a2).toInt ≠ 1 := mp_ne c5
    have qc7 : (a2).toInt ≠ 2 := mp_ne c7
    have qc10 : (a2).toInt ≠ 3 := mp_ne c10
    have qc12 : (a2).toInt ≠ 4 := mp_ne c12
    have qc14 : (a2).toInt ≠ 5 := mp_ne c14
    refine lv_tableOut (tgt := 114) hx hb dM_ofPlace_14 (by omega) (by decide) ?_
    refine lv_iload_n hx hb dM_ofPlace_114 rfl (lv_at hl 2 rfl) ?_
    refine lv_bipush (v := 10) hx hb dM_ofPlace_115 (by decide) ?_
    refine lv_icmp_lt (tgt := 141) hx hb dM_ofPlace_117 (by decide) (fun c16 => ?_) (fun c16 => ?_)
    · have h := mp_t c16 h
      refine lv_bipush (v := (-2)) hx hb dM_ofPlace_141 (by decide) ?_
      exact mp_ri cx h dM_ofPlace_143
    · have h := mp_f c16 h
      refine lv_iload_n hx hb dM_ofPlace_120 rfl (lv_at hl 2 rfl) ?_
      refine lv_bipush (v := 16) hx hb dM_ofPlace_121 (by decide) ?_
      refine lv_icmp_ge (tgt := 141) hx hb dM_ofPlace_123 (by decide) (fun c17 => ?_) (fun c17 => ?_)
      · have h := mp_t c17 h
        refine lv_bipush (v := (-2)) hx hb dM_ofPlace_141 (by decide) ?_
        exact mp_ri cx h dM_ofPlace_143
      · have h := mp_f c17 h
        refine lv_aload_n hx hb dM_ofPlace_126 rfl (lv_at hl 0 rfl) ?_
        refine mp_gM cx hE hP iM 0 rfl 0 (by decide) wq_96 rfl (v := .ref (ad 1)) rfl dM_ofPlace_127 ?_
        refine lv_iload_n hx hb dM_ofPlace_130 rfl (lv_at hl 1 rfl) ?_
        refine lv_iload_n hx hb dM_ofPlace_131 rfl (lv_at hl 2 rfl) ?_
        refine lv_bipush (v := 10) hx hb dM_ofPlace_132 (by decide) ?_
        refine lv_isub hx hb dM_ofPlace_134 ?_
        obtain ⟨x18, ex18, h⟩ := mp_bs h
        refine mp_si (mp_runV (As := [.int a1, .int (a2 - 10)]) (rest := []) cx kV_M_57 (cW_messagesOf l k (fun i => ad (i + 1)) S.1 a1 (a2 - 10) x18 ex18) ⟨rfl, rfl, Nat.le_of_ble_eq_true rfl, Nat.le_of_ble_eq_true rfl⟩ ⟨Nat.zero_le _, Nat.zero_le _⟩ hE (pM_now (S := S) hP) (dM_now (S := S) hD) va_S.rf 0 rfl rfl rfl hl.1 rfl (Nat.le_of_ble_eq_true rfl) dM_ofPlace_135) ?_
        refine lv_goto (tgt := 143) hx hb dM_ofPlace_138 (by decide) ?_
        exact mp_ri cx h dM_ofPlace_143
  · have h := mp_t c2 h
    refine lv_iconst (v := (-1)) hx hb dM_ofPlace_11 (by decide) ?_
    exact mp_ri cx h dM_ofPlace_12
theorem cM_ofPlace (l : Launch) (k : KK) (ad : Nat → Nat) (S : SM) (a1 : Int32) (a2 : Int32) (z : Int32) (h : fM_ofPlace S a1 a2 = some z) : mp_CS l k yM_ofPlace bM_ofPlace 3 (some .int) rmM_ofPlace [.ref (ad 0), .int a1, .int a2] (cM k ad S) (some (.int z)) := by
  refine Met.ofW (cc := bM_ofPlace) (maxL := 3) (ret := (some .int)) (by decide) rfl ?_
  intro p e s m args below meth c s₁ B hml hv
  obtain ⟨rfl, hP, hD, hE⟩ := hv
  have hl := lv_entry ([.ref (ad 0), .int a1, .int a2]) (n := 3) (Nat.le_of_ble_eq_true rfl)
  rw [lg_entry_eq]
  generalize (lg_sl ([.ref (ad 0), .int a1, .int a2]) ++ List.replicate (3 - (lg_sl ([.ref (ad 0), .int a1, .int a2])).length) Slot.unset).toArray = ls at hl ⊢
  exact wM_ofPlace (mp_C.of B hml) k ad S a1 a2 z hE hP hD h ls hl
-- MovingPlaces.ofThread
abbrev rmM_ofThread : Room := { frames := 3, cells := 0, slots := 0, locals := 65 }
def fM_ofThread (S : SM) (a1 : Int32) (a2 : Int32) : Option Int32 := (fW_isThread S.1 a1).bind fun x1 => (if x1 = 0 then some (-1) else (if a2 = 0 then (fW_placeOfThread S.1 a1).bind fun x4 => some x4 else if a2 = 1 then (fW_actsDone S.1 a1).bind fun x6 => some x6 else if a2 = 2 then (fW_actsInAll S.1 a1).bind fun x8 => some x8 else if a2 = 3 then (fW_heardBy S.1 a1).bind fun x10 => some x10 else if a2 = 4 then (fW_isOver S.1 a1).bind fun x12 => (if x12 = 0 then (fW_actsDone S.1 a1).bind fun x14 => (fW_actOf S.1 a1 x14).bind fun x15 => some x15 else some (-9)) else some (-2)))
set_option maxHeartbeats 4000000 in
set_option maxRecDepth 100000 in
theorem wM_ofThread {p : Program} {l : Launch} {e : Env} {s : State} {m : MethodId} {args : Array Value} {below : List Frame} {meth : Method} {c : Code} (cx : mp_C p s m args meth c bM_ofThread 3 (some .int) rM) (k : KK) (ad : Nat → Nat) (S : SM) (a1 : Int32) (a2 : Int32) (z : Int32) (hE : mp_E k s) (hP : va_P (kD k) mp_cls (cM k ad S) s.heap) (hD : va_D (mp_N k) (cM k ad S)) (h : fM_ofThread S a1 a2 = some z) (ls : Array Slot) (hl : lv_has ls 3 [(0, .ref (ad 0)), (1, .int a1), (2, .int a2)]) : W p l e rmM_ofThread s m args below meth c s.heap [] 0 0 (MQ below (mp_Qs (some (.int z))) args s 0 0 (fun _ => False)) (F0 m 0 ls []) := by
  obtain ⟨hx, hb, -, hml, hown, hts, -⟩ := id cx
  unfold fM_ofThread at h
  refine lv_aload_n hx hb dM_ofThread_0 rfl (lv_at hl 0 rfl) ?_
  refine mp_gM cx hE hP iM 0 rfl 0 (by decide) wq_96 rfl (v := .ref (ad 1)) rfl dM_ofThread_1 ?_
  refine lv_iload_n hx hb dM_ofThread_4 rfl (lv_at hl 1 rfl) ?_
  obtain ⟨x1, ex1, h⟩ := mp_bs h
  refine mp_si (mp_runV (As := [.int a1]) (rest := []) cx kV_M_80 (cW_isThread l k (fun i => ad (i + 1)) S.1 a1 x1 ex1) ⟨rfl, rfl, Nat.le_of_ble_eq_true rfl, Nat.le_of_ble_eq_true rfl⟩ ⟨Nat.zero_le _, Nat.zero_le _⟩ hE (pM_now (S := S) hP) (dM_now (S := S) hD) va_S.rf 0 rfl rfl rfl hl.1 rfl (Nat.le_of_ble_eq_true rfl) dM_ofThread_5) ?_
  refine lv_if_ne (tgt := 13) hx hb dM_ofThread_8 (by decide) (fun c2 => ?_) (fun c2 => ?_)
  · have h := mp_f c2 h
    refine lv_iload_n hx hb dM_ofThread_13 rfl (lv_at hl 2 rfl) ?_
    by_cases c3 : a2 = 0
    · have h := mp_t c3 h
      refine lv_tableIn (off := 34) (tgt := 48) hx hb dM_ofThread_14 (by rw [c3]; decide) (by rw [c3]; decide) (by rw [c3]; rfl) (by decide) ?_
      refine lv_aload_n hx hb dM_ofThread_48 rfl (lv_at hl 0 rfl) ?_
      refine mp_gM cx hE hP iM 0 rfl 0 (by decide) wq_96 rfl (v := .ref (ad 1)) rfl dM_ofThread_49 ?_
      refine lv_iload_n hx hb dM_ofThread_52 rfl (lv_at hl 1 rfl) ?_
      obtain ⟨x4, ex4, h⟩ := mp_bs h
      refine mp_si (mp_runV (As := [.int a1]) (rest := []) cx kV_M_83 (cW_placeOfThread l k (fun i => ad (i + 1)) S.1 a1 x4 ex4) ⟨rfl, rfl, Nat.le_of_ble_eq_true rfl, Nat.le_of_ble_eq_true rfl⟩ ⟨Nat.zero_le _, Nat.zero_le _⟩ hE (pM_now (S := S) hP) (dM_now (S := S) hD) va_S.rf 0 rfl rfl rfl hl.1 rfl (Nat.le_of_ble_eq_true rfl) dM_ofThread_53) ?_
      exact mp_ri cx h dM_ofThread_56
    have h := mp_f c3 h
    by_cases c5 : a2 = 1
    · have h := mp_t c5 h
      refine lv_tableIn (off := 43) (tgt := 57) hx hb dM_ofThread_14 (by rw [c5]; decide) (by rw [c5]; decide) (by rw [c5]; rfl) (by decide) ?_
      refine lv_aload_n hx hb dM_ofThread_57 rfl (lv_at hl 0 rfl) ?_
      refine mp_gM cx hE hP iM 0 rfl 0 (by decide) wq_96 rfl (v := .ref (ad 1)) rfl dM_ofThread_58 ?_
      refine lv_iload_n hx hb dM_ofThread_61 rfl (lv_at hl 1 rfl) ?_
      obtain ⟨x6, ex6, h⟩ := mp_bs h
      refine mp_si (mp_runV (As := [.int a1]) (rest := []) cx kV_M_86 (cW_actsDone l k (fun i => ad (i + 1)) S.1 a1 x6 ex6) ⟨rfl, rfl, Nat.le_of_ble_eq_true rfl, Nat.le_of_ble_eq_true rfl⟩ ⟨Nat.zero_le _, Nat.zero_le _⟩ hE (pM_now (S := S) hP) (dM_now (S := S) hD) va_S.rf 0 rfl rfl rfl hl.1 rfl (Nat.le_of_ble_eq_true rfl) dM_ofThread_62) ?_
      exact mp_ri cx h dM_ofThread_65
    have h := mp_f c5 h
    by_cases c7 : a2 = 2
    · have h := mp_t c7 h
      refine lv_tableIn (off := 52) (tgt := 66) hx hb dM_ofThread_14 (by rw [c7]; decide) (by rw [c7]; decide) (by rw [c7]; rfl) (by decide) ?_
      refine lv_aload_n hx hb dM_ofThread_66 rfl (lv_at hl 0 rfl) ?_
      refine mp_gM cx hE hP iM 0 rfl 0 (by decide) wq_96 rfl (v := .ref (ad 1)) rfl dM_ofThread_67 ?_
      refine lv_iload_n hx hb dM_ofThread_70 rfl (lv_at hl 1 rfl) ?_
      obtain ⟨x8, ex8, h⟩ := mp_bs h
      refine mp_si (mp_runV (As := [.int a1]) (rest := []) cx kV_M_89 (cW_actsInAll l k (fun i => ad (i + 1)) S.1 a1 x8 ex8) ⟨rfl, rfl, Nat.le_of_ble_eq_true rfl, Nat.le_of_ble_eq_true rfl⟩ ⟨Nat.zero_le _, Nat.zero_le _⟩ hE (pM_now (S := S) hP) (dM_now (S := S) hD) va_S.rf 0 rfl rfl rfl hl.1 rfl (Nat.le_of_ble_eq_true rfl) dM_ofThread_71) ?_
      exact mp_ri cx h dM_ofThread_74
    have h := mp_f c7 h
    by_cases c9 : a2 = 3
    · have h := mp_t c9 h
      refine lv_tableIn (off := 61) (tgt := 75) hx hb dM_ofThread_14 (by rw [c9]; decide) (by rw [c9]; decide) (by rw [c9]; rfl) (by decide) ?_
      refine lv_aload_n hx hb dM_ofThread_75 rfl (lv_at hl 0 rfl) ?_
      refine mp_gM cx hE hP iM 0 rfl 0 (by decide) wq_96 rfl (v := .ref (ad 1)) rfl dM_ofThread_76 ?_
      refine lv_iload_n hx hb dM_ofThread_79 rfl (lv_at hl 1 rfl) ?_
      obtain ⟨x10, ex10, h⟩ := mp_bs h
      refine mp_si (mp_runV (As := [.int a1]) (rest := []) cx kV_M_92 (cW_heardBy l k (fun i => ad (i + 1)) S.1 a1 x10 ex10) ⟨rfl, rfl, Nat.le_of_ble_eq_true rfl, Nat.le_of_ble_eq_true rfl⟩ ⟨Nat.zero_le _, Nat.zero_le _⟩ hE (pM_now (S := S) hP) (dM_now (S := S) hD) va_S.rf 0 rfl rfl rfl hl.1 rfl (Nat.le_of_ble_eq_true rfl) dM_ofThread_80) ?_
      exact mp_ri cx h dM_ofThread_83
    have h := mp_f c9 h
    by_cases c11 : a2 = 4
    · have h := mp_t c11 h
      refine lv_tableIn (off := 70) (tgt := 84) hx hb dM_ofThread_14 (by rw [c11]; decide) (by rw [c11]; decide) (by rw [c11]; rfl) (by decide) ?_
      refine lv_aload_n hx hb dM_ofThread_84 rfl (lv_at hl 0 rfl) ?_
      refine mp_gM cx hE hP iM 0 rfl 0 (by decide) wq_96 rfl (v := .ref (ad 1)) rfl dM_ofThread_85 ?_
      refine lv_iload_n hx hb dM_ofThread_88 rfl (lv_at hl 1 rfl) ?_
      obtain ⟨x12, ex12, h⟩ := mp_bs h
      refine mp_si (mp_runV (As := [.int a1]) (rest := []) cx kV_M_95 (cW_isOver l k (fun i => ad (i + 1)) S.1 a1 x12 ex12) ⟨rfl, rfl, Nat.le_of_ble_eq_true rfl, Nat.le_of_ble_eq_true rfl⟩ ⟨Nat.zero_le _, Nat.zero_le _⟩ hE (pM_now (S := S) hP) (dM_now (S := S) hD) va_S.rf 0 rfl rfl rfl hl.1 rfl (Nat.le_of_ble_eq_true rfl) dM_ofThread_89) ?_
      refine lv_if_eq (tgt := 100) hx hb dM_ofThread_92 (by decide) (fun c13 => ?_) (fun c13 => ?_)
      · have h := mp_t c13 h
        refine lv_aload_n hx hb dM_ofThread_100 rfl (lv_at hl 0 rfl) ?_
        refine mp_gM cx hE hP iM 0 rfl 0 (by decide) wq_96 rfl (v := .ref (ad 1)) rfl dM_ofThread_101 ?_
        refine lv_iload_n hx hb dM_ofThread_104 rfl (lv_at hl 1 rfl) ?_
        refine lv_aload_n hx hb dM_ofThread_105 rfl (lv_at hl 0 rfl) ?_
        refine mp_gM cx hE hP iM 0 rfl 0 (by decide) wq_96 rfl (v := .ref (ad 1)) rfl dM_ofThread_106 ?_
        refine lv_iload_n hx hb dM_ofThread_109 rfl (lv_at hl 1 rfl) ?_
        obtain ⟨x14, ex14, h⟩ := mp_bs h
        refine mp_si (mp_runV (As := [.int a1]) (rest := [.int a1, .ref (ad 1)]) cx kV_M_86 (cW_actsDone l k (fun i => ad (i + 1)) S.1 a1 x14 ex14) ⟨rfl, rfl, Nat.le_of_ble_eq_true rfl, Nat.le_of_ble_eq_true rfl⟩ ⟨Nat.zero_le _, Nat.zero_le _⟩ hE (pM_now (S := S) hP) (dM_now (S := S) hD) va_S.rf 0 rfl rfl rfl hl.1 rfl (Nat.le_of_ble_eq_true rfl) dM_ofThread_110) ?_
        obtain ⟨x15, ex15, h⟩ := mp_bs h
        refine mp_si (mp_runV (As := [.int a1, .int x14]) (rest := []) cx kV_M_98 (cW_actOf l k (fun i => ad (i + 1)) S.1 a1 x14 x15 ex15) ⟨rfl, rfl, Nat.le_of_ble_eq_true rfl, Nat.le_of_ble_eq_true rfl⟩ ⟨Nat.zero_le _, Nat.zero_le _⟩ hE (pM_now (S := S) hP) (dM_now (S := S) hD) va_S.rf 0 rfl rfl rfl hl.1 rfl (Nat.le_of_ble_eq_true rfl) dM_ofThread_113) ?_
        exact mp_ri cx h dM_ofThread_116
      · have h := mp_f c13 h
        refine lv_bipush (v := (-9)) hx hb dM_ofThread_95 (by decide) ?_
        refine lv_goto (tgt := 116) hx hb dM_ofThread_97 (by decide) ?_
        exact mp_ri cx h dM_ofThread_116
    have h := mp_f c11 h
    have qc3 : (a2).toInt ≠ 0 := mp_ne c3
    have qc5 : (a2).toInt ≠ 1 := mp_ne c5
    have qc7 : (a2).toInt ≠ 2 := mp_ne c7
    have qc9 : (a2).toInt ≠ 3 := mp_ne c9
    have qc11 : (a2).toInt ≠ 4 := mp_ne c11
    refine lv_tableOut (tgt := 117) hx hb dM_ofThread_14 (by omega) (by decide) ?_
    refine lv_bipush (v := (-2)) hx hb dM_ofThread_117 (by decide) ?_
    exact mp_ri cx h dM_ofThread_119
  · have h := mp_t c2 h
    refine lv_iconst (v := (-1)) hx hb dM_ofThread_11 (by decide) ?_
    exact mp_ri cx h dM_ofThread_12
theorem cM_ofThread (l : Launch) (k : KK) (ad : Nat → Nat) (S : SM) (a1 : Int32) (a2 : Int32) (z : Int32) (h : fM_ofThread S a1 a2 = some z) : mp_CS l k yM_ofThread bM_ofThread 3 (some .int) rmM_ofThread [.ref (ad 0), .int a1, .int a2] (cM k ad S) (some (.int z)) := by
  refine Met.ofW (cc := bM_ofThread) (maxL := 3) (ret := (some .int)) (by decide) rfl ?_
  intro p e s m args below meth c s₁ B hml hv
  obtain ⟨rfl, hP, hD, hE⟩ := hv
  have hl := lv_entry ([.ref (ad 0), .int a1, .int a2]) (n := 3) (Nat.le_of_ble_eq_true rfl)
  rw [lg_entry_eq]
  generalize (lg_sl ([.ref (ad 0), .int a1, .int a2]) ++ List.replicate (3 - (lg_sl ([.ref (ad 0), .int a1, .int a2])).length) Slot.unset).toArray = ls at hl ⊢
  exact wM_ofThread (mp_C.of B hml) k ad S a1 a2 z hE hP hD h ls hl
-- MovingPlaces.within
abbrev rmM_within : Room := { frames := 3, cells := 0, slots := 0, locals := 66 }
def fM_within (S : SM) (a1 : Int32) (a2 : Int32) : Option Int32 := (fW_isPlace S.1 a1).bind fun x1 => (if x1 = 0 then some (-1) else (fW_isPlace S.1 a2).bind fun x3 => (if x3 = 0 then some (-1) else (fW_isWithin S.1 a1 a2).bind fun x5 => (if x5 = 0 then some 0 else some 1)))
set_option maxHeartbeats 4000000 in
set_option maxRecDepth 100000 in
theorem wM_within {p : Program} {l : Launch} {e : Env} {s : State} {m : MethodId} {args : Array Value} {below : List Frame} {meth : Method} {c : Code} (cx : mp_C p s m args meth c bM_within 3 (some .int) rM) (k : KK) (ad : Nat → Nat) (S : SM) (a1 : Int32) (a2 : Int32) (z : Int32) (hE : mp_E k s) (hP : va_P (kD k) mp_cls (cM k ad S) s.heap) (hD : va_D (mp_N k) (cM k ad S)) (h : fM_within S a1 a2 = some z) (ls : Array Slot) (hl : lv_has ls 3 [(0, .ref (ad 0)), (1, .int a1), (2, .int a2)]) : W p l e rmM_within s m args below meth c s.heap [] 0 0 (MQ below (mp_Qs (some (.int z))) args s 0 0 (fun _ => False)) (F0 m 0 ls []) := by
  obtain ⟨hx, hb, -, hml, hown, hts, -⟩ := id cx
  unfold fM_within at h
  refine lv_aload_n hx hb dM_within_0 rfl (lv_at hl 0 rfl) ?_
  refine mp_gM cx hE hP iM 0 rfl 0 (by decide) wq_96 rfl (v := .ref (ad 1)) rfl dM_within_1 ?_
  refine lv_iload_n hx hb dM_within_4 rfl (lv_at hl 1 rfl) ?_
  obtain ⟨x1, ex1, h⟩ := mp_bs h
  refine mp_si (mp_runV (As := [.int a1]) (rest := []) cx kV_M_31 (cW_isPlace l k (fun i => ad (i + 1)) S.1 a1 x1 ex1) ⟨rfl, rfl, Nat.le_of_ble_eq_true rfl, Nat.le_of_ble_eq_true rfl⟩ ⟨Nat.zero_le _, Nat.zero_le _⟩ hE (pM_now (S := S) hP) (dM_now (S := S) hD) va_S.rf 0 rfl rfl rfl hl.1 rfl (Nat.le_of_ble_eq_true rfl) dM_within_5) ?_
  refine lv_if_eq (tgt := 22) hx hb dM_within_8 (by decide) (fun c2 => ?_) (fun c2 => ?_)
  · have h := mp_t c2 h
    refine lv_iconst (v := (-1)) hx hb dM_within_22 (by decide) ?_
    exact mp_ri cx h dM_within_23
  · have h := mp_f c2 h
    refine lv_aload_n hx hb dM_within_11 rfl (lv_at hl 0 rfl) ?_
    refine mp_gM cx hE hP iM 0 rfl 0 (by decide) wq_96 rfl (v := .ref (ad 1)) rfl dM_within_12 ?_
    refine lv_iload_n hx hb dM_within_15 rfl (lv_at hl 2 rfl) ?_
    obtain ⟨x3, ex3, h⟩ := mp_bs h
    refine mp_si (mp_runV (As := [.int a2]) (rest := []) cx kV_M_31 (cW_isPlace l k (fun i => ad (i + 1)) S.1 a2 x3 ex3) ⟨rfl, rfl, Nat.le_of_ble_eq_true rfl, Nat.le_of_ble_eq_true rfl⟩ ⟨Nat.zero_le _, Nat.zero_le _⟩ hE (pM_now (S := S) hP) (dM_now (S := S) hD) va_S.rf 0 rfl rfl rfl hl.1 rfl (Nat.le_of_ble_eq_true rfl) dM_within_16) ?_
    refine lv_if_ne (tgt := 24) hx hb dM_within_19 (by decide) (fun c4 => ?_) (fun c4 => ?_)
    · have h := mp_f c4 h
      refine lv_aload_n hx hb dM_within_24 rfl (lv_at hl 0 rfl) ?_
      refine mp_gM cx hE hP iM 0 rfl 0 (by decide) wq_96 rfl (v := .ref (ad 1)) rfl dM_within_25 ?_
      refine lv_iload_n hx hb dM_within_28 rfl (lv_at hl 1 rfl) ?_
      refine lv_iload_n hx hb dM_within_29 rfl (lv_at hl 2 rfl) ?_
      obtain ⟨x5, ex5, h⟩ := mp_bs h
      refine mp_si (mp_runV (As := [.int a1, .int a2]) (rest := []) cx kV_M_101 (cW_isWithin l k (fun i => ad (i + 1)) S.1 a1 a2 x5 ex5) ⟨rfl, rfl, Nat.le_of_ble_eq_true rfl, Nat.le_of_ble_eq_true rfl⟩ ⟨Nat.zero_le _, Nat.zero_le _⟩ hE (pM_now (S := S) hP) (dM_now (S := S) hD) va_S.rf 0 rfl rfl rfl hl.1 rfl (Nat.le_of_ble_eq_true rfl) dM_within_30) ?_
      refine lv_if_eq (tgt := 40) hx hb dM_within_33 (by decide) (fun c6 => ?_) (fun c6 => ?_)
      · have h := mp_t c6 h
        refine lv_iconst (v := 0) hx hb dM_within_40 (by decide) ?_
        exact mp_ri cx h dM_within_41
      · have h := mp_f c6 h
        refine lv_iconst (v := 1) hx hb dM_within_36 (by decide) ?_
        refine lv_goto (tgt := 41) hx hb dM_within_37 (by decide) ?_
        exact mp_ri cx h dM_within_41
    · have h := mp_t c4 h
      refine lv_iconst (v := (-1)) hx hb dM_within_22 (by decide) ?_
      exact mp_ri cx h dM_within_23
theorem cM_within (l : Launch) (k : KK) (ad : Nat → Nat) (S : SM) (a1 : Int32) (a2 : Int32) (z : Int32) (h : fM_within S a1 a2 = some z) : mp_CS l k yM_within bM_within 3 (some .int) rmM_within [.ref (ad 0), .int a1, .int a2] (cM k ad S) (some (.int z)) := by
  refine Met.ofW (cc := bM_within) (maxL := 3) (ret := (some .int)) (by decide) rfl ?_
  intro p e s m args below meth c s₁ B hml hv
  obtain ⟨rfl, hP, hD, hE⟩ := hv
  have hl := lv_entry ([.ref (ad 0), .int a1, .int a2]) (n := 3) (Nat.le_of_ble_eq_true rfl)
  rw [lg_entry_eq]
  generalize (lg_sl ([.ref (ad 0), .int a1, .int a2]) ++ List.replicate (3 - (lg_sl ([.ref (ad 0), .int a1, .int a2])).length) Slot.unset).toArray = ls at hl ⊢
  exact wM_within (mp_C.of B hml) k ad S a1 a2 z hE hP hD h ls hl
-- MovingPlaces.can
abbrev rmM_can : Room := { frames := 5, cells := 0, slots := 0, locals := 111 }
def fM_can (S : SM) : Option Int32 := (fW_threadsThatCan S.1).bind fun x1 => some x1
set_option maxHeartbeats 4000000 in
set_option maxRecDepth 100000 in
theorem wM_can {p : Program} {l : Launch} {e : Env} {s : State} {m : MethodId} {args : Array Value} {below : List Frame} {meth : Method} {c : Code} (cx : mp_C p s m args meth c bM_can 1 (some .int) rM) (k : KK) (ad : Nat → Nat) (S : SM) (z : Int32) (hE : mp_E k s) (hP : va_P (kD k) mp_cls (cM k ad S) s.heap) (hD : va_D (mp_N k) (cM k ad S)) (h : fM_can S = some z) (ls : Array Slot) (hl : lv_has ls 1 [(0, .ref (ad 0))]) : W p l e rmM_can s m args below meth c s.heap [] 0 0 (MQ below (mp_Qs (some (.int z))) args s 0 0 (fun _ => False)) (F0 m 0 ls []) := by
  obtain ⟨hx, hb, -, hml, hown, hts, -⟩ := id cx
  unfold fM_can at h
  refine lv_aload_n hx hb dM_can_0 rfl (lv_at hl 0 rfl) ?_
  refine mp_gM cx hE hP iM 0 rfl 0 (by decide) wq_96 rfl (v := .ref (ad 1)) rfl dM_can_1 ?_
  obtain ⟨x1, ex1, h⟩ := mp_bs h
  refine mp_si (mp_runV (As := []) (rest := []) cx kV_M_105 (cW_threadsThatCan l k (fun i => ad (i + 1)) S.1 x1 ex1) ⟨rfl, rfl, Nat.le_of_ble_eq_true rfl, Nat.le_of_ble_eq_true rfl⟩ ⟨Nat.zero_le _, Nat.zero_le _⟩ hE (pM_now (S := S) hP) (dM_now (S := S) hD) va_S.rf 0 rfl rfl rfl hl.1 rfl (Nat.le_of_ble_eq_true rfl) dM_can_4) ?_
  exact mp_ri cx h dM_can_7
theorem cM_can (l : Launch) (k : KK) (ad : Nat → Nat) (S : SM) (z : Int32) (h : fM_can S = some z) : mp_CS l k yM_can bM_can 1 (some .int) rmM_can [.ref (ad 0)] (cM k ad S) (some (.int z)) := by
  refine Met.ofW (cc := bM_can) (maxL := 1) (ret := (some .int)) (by decide) rfl ?_
  intro p e s m args below meth c s₁ B hml hv
  obtain ⟨rfl, hP, hD, hE⟩ := hv
  have hl := lv_entry ([.ref (ad 0)]) (n := 1) (Nat.le_of_ble_eq_true rfl)
  rw [lg_entry_eq]
  generalize (lg_sl ([.ref (ad 0)]) ++ List.replicate (1 - (lg_sl ([.ref (ad 0)])).length) Slot.unset).toArray = ls at hl ⊢
  exact wM_can (mp_C.of B hml) k ad S z hE hP hD h ls hl
-- MovingPlaces.act
abbrev rmM_act : Room := { frames := 5, cells := 0, slots := 0, locals := 113 }
def fM_act (S : SM) (a1 : Int32) : Option (Int32 × SM) := (fW_isThread S.1 a1).bind fun x1 => (if x1 = 0 then some ((-1), S) else (fW_doNextAct S.1 a1).bind fun x3 => (if x3.1 = (-9) then some ((-3), (x3.2, S.2.1, S.2.2.1, S.2.2.2.1, S.2.2.2.2.1, S.2.2.2.2.2.1, S.2.2.2.2.2.2)) else some (x3.1, (x3.2, S.2.1, S.2.2.1, S.2.2.2.1, S.2.2.2.2.1, S.2.2.2.2.2.1, S.2.2.2.2.2.2))))
set_option maxHeartbeats 4000000 in
set_option maxRecDepth 100000 in
theorem wM_act {p : Program} {l : Launch} {e : Env} {s : State} {m : MethodId} {args : Array Value} {below : List Frame} {meth : Method} {c : Code} (cx : mp_C p s m args meth c bM_act 3 (some .int) rM) (k : KK) (ad : Nat → Nat) (S : SM) (a1 : Int32) (z : (Int32 × SM)) (hE : mp_E k s) (hAN : ∀ q, mp_A (aM ad) q → mp_N k q) {H : Heap} {locs : List Loc} (hP : va_P (kD k) mp_cls (cM k ad S) H) (hD : va_D (mp_A (aM ad)) (cM k ad S)) (hS : va_S (mp_A (aM ad)) s.heap H locs) (h : fM_act S a1 = some z) (ls : Array Slot) (hl : lv_has ls 3 [(0, .ref (ad 0)), (1, .int a1)]) : W p l e rmM_act s m args below meth c H locs 0 0 (MQ below (mp_Qm k (some (.int z.1)) (cM k ad z.2) (aM ad)) args s 0 0 (mp_A (aM ad))) (F0 m 0 ls []) := by
  obtain ⟨hx, hb, -, hml, hown, hts, -⟩ := id cx
  unfold fM_act at h
  refine lv_aload_n hx hb dM_act_0 rfl (lv_at hl 0 rfl) ?_
  refine mp_gM cx hE hP iM 0 rfl 0 (by decide) wq_96 rfl (v := .ref (ad 1)) rfl dM_act_1 ?_
  refine lv_iload_n hx hb dM_act_4 rfl (lv_at hl 1 rfl) ?_
  obtain ⟨x1, ex1, h⟩ := mp_bs h
  refine mp_si (mp_runV (As := [.int a1]) (rest := []) cx kV_M_80 (cW_isThread l k (fun i => ad (i + 1)) S.1 a1 x1 ex1) ⟨rfl, rfl, Nat.le_of_ble_eq_true rfl, Nat.le_of_ble_eq_true rfl⟩ ⟨Nat.zero_le _, Nat.zero_le _⟩ hE (pM_now (S := S) hP) (dM_now (S := S) (mp_Dw hD hAN)) (mp_S hS hAN) 0 rfl rfl rfl hl.1 rfl (Nat.le_of_ble_eq_true rfl) dM_act_5) ?_
  refine lv_if_ne (tgt := 13) hx hb dM_act_8 (by decide) (fun c2 => ?_) (fun c2 => ?_)
  · have h := mp_f c2 h
    refine lv_aload_n hx hb dM_act_13 rfl (lv_at hl 0 rfl) ?_
    refine mp_gM cx hE hP iM 0 rfl 0 (by decide) wq_96 rfl (v := .ref (ad 1)) rfl dM_act_14 ?_
    refine lv_iload_n hx hb dM_act_17 rfl (lv_at hl 1 rfl) ?_
    obtain ⟨x3, ex3, h⟩ := mp_bs h
    refine mp_mi (mp_runV (As := [.int a1]) (rest := []) cx kV_M_109 (cW_doNextAct l k (fun i => ad (i + 1)) S.1 a1 x3 ex3) ⟨rfl, rfl, Nat.le_of_ble_eq_true rfl, Nat.le_of_ble_eq_true rfl⟩ ⟨Nat.zero_le _, Nat.zero_le _⟩ hE (pM_now (S := S) hP) (dM_now (S := S) (mp_Dw hD hAN)) (mp_S hS hAN) 0 rfl rfl rfl hl.1 rfl (Nat.le_of_ble_eq_true rfl) dM_act_18) hS (fun q h9 => mp_new (dM_now (S := S) hD) rfl q h9) (fun H1 locs hP1 hk hS => ?_)
    have hP : va_P (kD k) mp_cls (cM k ad (x3.2, S.2.1, S.2.2.1, S.2.2.2.1, S.2.2.2.2.1, S.2.2.2.2.2.1, S.2.2.2.2.2.2)) H1 := jM_now (S := S) hP hD hk hP1
    have hD : va_D (mp_A (aM ad)) (cM k ad (x3.2, S.2.1, S.2.2.1, S.2.2.2.1, S.2.2.2.2.1, S.2.2.2.2.2.1, S.2.2.2.2.2.2)) := mp_Ds hD rfl
    refine lv_istore_n (lv' := [(2, .int x3.1), (0, .ref (ad 0)), (1, .int a1)]) hx hb dM_act_21 rfl hl (by decide) rfl (fun ls hl => ?_)
    refine lv_iload_n hx hb dM_act_22 rfl (lv_at hl 0 rfl) ?_
    refine lv_bipush (v := (-9)) hx hb dM_act_23 (by decide) ?_
    refine lv_icmp_ne (tgt := 33) hx hb dM_act_25 (by decide) (fun c4 => ?_) (fun c4 => ?_)
    · have h := mp_f c4 h
      refine lv_iload_n hx hb dM_act_33 rfl (lv_at hl 0 rfl) ?_
      exact mp_rim (cf := cM k ad) cx h hP hS dM_act_34
    · have h := mp_t c4 h
      refine lv_bipush (v := (-3)) hx hb dM_act_28 (by decide) ?_
      refine lv_goto (tgt := 34) hx hb dM_act_30 (by decide) ?_
      exact mp_rim (cf := cM k ad) cx h hP hS dM_act_34
  · have h := mp_t c2 h
    refine lv_iconst (v := (-1)) hx hb dM_act_11 (by decide) ?_
    exact mp_rim (cf := cM k ad) cx h hP hS dM_act_12
theorem cM_act (l : Launch) (k : KK) (ad : Nat → Nat) (S : SM) (a1 : Int32) (z : (Int32 × SM)) (h : fM_act S a1 = some z) : mp_CM l k yM_act bM_act 3 (some .int) rmM_act [.ref (ad 0), .int a1] (cM k ad S) (cM k ad z.2) (aM ad) (some (.int z.1)) := by
  refine Met.ofW (cc := bM_act) (maxL := 3) (ret := (some .int)) (by decide) rfl ?_
  intro p e s m args below meth c s₁ B hml hv
  obtain ⟨rfl, hP, hD, hE⟩ := hv
  have hl := lv_entry ([.ref (ad 0), .int a1]) (n := 3) (Nat.le_of_ble_eq_true rfl)
  rw [lg_entry_eq]
  generalize (lg_sl ([.ref (ad 0), .int a1]) ++ List.replicate (3 - (lg_sl ([.ref (ad 0), .int a1])).length) Slot.unset).toArray = ls at hl ⊢
  exact wM_act (mp_C.of B hml) k ad S a1 z hE (mp_new hD rfl) hP (mp_own hD rfl) va_S.rf h ls hl
-- MovingPlaces.rounds
abbrev rmM_rounds : Room := { frames := 6, cells := 0, slots := 0, locals := 135 }
def fM_rounds_18 (a1 : Int32) : Nat → SM → Int32 → Int32 → Option (Int32 × SM)
  | 0, _, _, _ => none
  | n + 1, S, a2, a3 => (if a1 ≤ a3 then some (a2, S) else (fW_doRound S.1).bind fun x2 => (if x2.1 = 0 then some (a2, (x2.2, S.2.1, S.2.2.1, S.2.2.2.1, S.2.2.2.2.1, S.2.2.2.2.2.1, S.2.2.2.2.2.2)) else fM_rounds_18 a1 n (x2.2, S.2.1, S.2.2.1, S.2.2.2.1, S.2.2.2.2.1, S.2.2.2.2.2.1, S.2.2.2.2.2.2) (a2 + x2.1) (a3 + 1)))
theorem fM_rounds_18_s (a1 : Int32) (n : Nat) (S : SM) (a2 : Int32) (a3 : Int32) : fM_rounds_18 a1 (n + 1) S a2 a3 = (if a1 ≤ a3 then some (a2, S) else (fW_doRound S.1).bind fun x2 => (if x2.1 = 0 then some (a2, (x2.2, S.2.1, S.2.2.1, S.2.2.2.1, S.2.2.2.2.1, S.2.2.2.2.2.1, S.2.2.2.2.2.2)) else fM_rounds_18 a1 n (x2.2, S.2.1, S.2.2.1, S.2.2.2.1, S.2.2.2.2.1, S.2.2.2.2.2.1, S.2.2.2.2.2.2) (a2 + x2.1) (a3 + 1))) := rfl
set_option maxHeartbeats 4000000 in
set_option maxRecDepth 100000 in
theorem lM_rounds_18 {p : Program} {l : Launch} {e : Env} {s : State} {m : MethodId} {args : Array Value} {below : List Frame} {meth : Method} {c : Code} (cx : mp_C p s m args meth c bM_rounds 5 (some .int) rM) (k : KK) (ad : Nat → Nat) (a1 : Int32) (z : (Int32 × SM)) (hE : mp_E k s) (hAN : ∀ q, mp_A (aM ad) q → mp_N k q) : ∀ (n : Nat) (S : SM) (a2 : Int32) (a3 : Int32), fM_rounds_18 a1 n S a2 a3 = some z → ∀ (H : Heap) (locs : List Loc), va_P (kD k) mp_cls (cM k ad S) H → va_D (mp_A (aM ad)) (cM k ad S) → va_S (mp_A (aM ad)) s.heap H locs → ∀ (ls : Array Slot), lv_has ls 5 [(0, .ref (ad 0)), (1, .int a1), (2, .int a2), (3, .int a3)] → W p l e rmM_rounds s m args below meth c H locs 0 0 (MQ below (mp_Qm k (some (.int z.1)) (cM k ad z.2) (aM ad)) args s 0 0 (mp_A (aM ad))) (F0 m 18 ls []) := by
  obtain ⟨hx, hb, -, hml, hown, hts, -⟩ := id cx
  intro n
  induction n with
  | zero =>
    intro S a2 a3 h
    have h : (none : Option (Int32 × SM)) = some z := h
    cases h
  | succ n ih =>
    intro S a2 a3 h H locs hP hD hS ls hl
    rw [fM_rounds_18_s] at h
    refine lv_iload_n hx hb dM_rounds_18 rfl (lv_at hl 3 rfl) ?_
    refine lv_iload_n hx hb dM_rounds_19 rfl (lv_at hl 1 rfl) ?_
    refine lv_icmp_ge (tgt := 51) hx hb dM_rounds_20 (by decide) (fun c1 => ?_) (fun c1 => ?_)
    · have h := mp_t c1 h
      refine lv_iload_n hx hb dM_rounds_51 rfl (lv_at hl 2 rfl) ?_
      exact mp_rim (cf := cM k ad) cx h hP hS dM_rounds_52
    · have h := mp_f c1 h
      refine lv_aload_n hx hb dM_rounds_23 rfl (lv_at hl 0 rfl) ?_
      refine mp_gM cx hE hP iM 0 rfl 0 (by decide) wq_96 rfl (v := .ref (ad 1)) rfl dM_rounds_24 ?_
      obtain ⟨x2, ex2, h⟩ := mp_bs h
      refine mp_mi (mp_runV (As := []) (rest := []) cx kV_M_112 (cW_doRound l k (fun i => ad (i + 1)) S.1 x2 ex2) ⟨rfl, rfl, Nat.le_of_ble_eq_true rfl, Nat.le_of_ble_eq_true rfl⟩ ⟨Nat.zero_le _, Nat.zero_le _⟩ hE (pM_now (S := S) hP) (dM_now (S := S) (mp_Dw hD hAN)) (mp_S hS hAN) 0 rfl rfl rfl hl.1 rfl (Nat.le_of_ble_eq_true rfl) dM_rounds_27) hS (fun q h9 => mp_new (dM_now (S := S) hD) rfl q h9) (fun H1 locs hP1 hk hS => ?_)
      have hP : va_P (kD k) mp_cls (cM k ad (x2.2, S.2.1, S.2.2.1, S.2.2.2.1, S.2.2.2.2.1, S.2.2.2.2.2.1, S.2.2.2.2.2.2)) H1 := jM_now (S := S) hP hD hk hP1
      have hD : va_D (mp_A (aM ad)) (cM k ad (x2.2, S.2.1, S.2.2.1, S.2.2.2.1, S.2.2.2.2.1, S.2.2.2.2.2.1, S.2.2.2.2.2.2)) := mp_Ds hD rfl
      refine lv_istore (lv' := [(4, .int x2.1), (0, .ref (ad 0)), (1, .int a1), (2, .int a2), (3, .int a3)]) hx hb dM_rounds_30 hl (by decide) rfl (fun ls hl => ?_)
      refine lv_iload hx hb dM_rounds_32 (lv_at hl 0 rfl) ?_
      refine lv_if_ne (tgt := 40) hx hb dM_rounds_34 (by decide) (fun c3 => ?_) (fun c3 => ?_)
      · have h := mp_f c3 h
        refine lv_iload_n hx hb dM_rounds_40 rfl (lv_at hl 3 rfl) ?_
        refine lv_iload hx hb dM_rounds_41 (lv_at hl 0 rfl) ?_
        refine lv_iadd hx hb dM_rounds_43 ?_
        refine lv_istore_n (lv' := [(2, .int (a2 + x2.1)), (4, .int x2.1), (0, .ref (ad 0)), (1, .int a1), (3, .int a3)]) hx hb dM_rounds_44 rfl hl (by decide) rfl (fun ls hl => ?_)
        refine lv_iinc (v := (a3 + 1)) (lv' := [(3, .int (a3 + 1)), (2, .int (a2 + x2.1)), (4, .int x2.1), (0, .ref (ad 0)), (1, .int a1)]) hx hb dM_rounds_45 hl (k := 4) rfl rfl (by decide) rfl (fun ls hl => ?_)
        refine lv_goto (tgt := 18) hx hb dM_rounds_48 (by decide) ?_
        exact ih (x2.2, S.2.1, S.2.2.1, S.2.2.2.1, S.2.2.2.2.1, S.2.2.2.2.2.1, S.2.2.2.2.2.2) (a2 + x2.1) (a3 + 1) h _ _ hP hD hS ls (lv_sub hl [3, 4, 1, 0] rfl)
      · have h := mp_t c3 h
        refine lv_goto (tgt := 51) hx hb dM_rounds_37 (by decide) ?_
        refine lv_iload_n hx hb dM_rounds_51 rfl (lv_at hl 3 rfl) ?_
        exact mp_rim (cf := cM k ad) cx h hP hS dM_rounds_52
def fM_rounds (S : SM) (a1 : Int32) : Option (Int32 × SM) := (if a1 < 1 then some ((-2), S) else (if a1 ≤ 50 then fM_rounds_18 a1 2000 S 0 0 else some ((-2), S)))
set_option maxHeartbeats 4000000 in
set_option maxRecDepth 100000 in
theorem wM_rounds {p : Program} {l : Launch} {e : Env} {s : State} {m : MethodId} {args : Array Value} {below : List Frame} {meth : Method} {c : Code} (cx : mp_C p s m args meth c bM_rounds 5 (some .int) rM) (k : KK) (ad : Nat → Nat) (S : SM) (a1 : Int32) (z : (Int32 × SM)) (hE : mp_E k s) (hAN : ∀ q, mp_A (aM ad) q → mp_N k q) {H : Heap} {locs : List Loc} (hP : va_P (kD k) mp_cls (cM k ad S) H) (hD : va_D (mp_A (aM ad)) (cM k ad S)) (hS : va_S (mp_A (aM ad)) s.heap H locs) (h : fM_rounds S a1 = some z) (ls : Array Slot) (hl : lv_has ls 5 [(0, .ref (ad 0)), (1, .int a1)]) : W p l e rmM_rounds s m args below meth c H locs 0 0 (MQ below (mp_Qm k (some (.int z.1)) (cM k ad z.2) (aM ad)) args s 0 0 (mp_A (aM ad))) (F0 m 0 ls []) := by
  obtain ⟨hx, hb, -, hml, hown, hts, -⟩ := id cx
  unfold fM_rounds at h
  refine lv_iload_n hx hb dM_rounds_0 rfl (lv_at hl 1 rfl) ?_
  refine lv_iconst (v := 1) hx hb dM_rounds_1 (by decide) ?_
  refine lv_icmp_lt (tgt := 11) hx hb dM_rounds_2 (by decide) (fun c1 => ?_) (fun c1 => ?_)
  · have h := mp_t c1 h
    refine lv_bipush (v := (-2)) hx hb dM_rounds_11 (by decide) ?_
    exact mp_rim (cf := cM k ad) cx h hP hS dM_rounds_13
  · have h := mp_f c1 h
    refine lv_iload_n hx hb dM_rounds_5 rfl (lv_at hl 1 rfl) ?_
    refine lv_bipush (v := 50) hx hb dM_rounds_6 (by decide) ?_
    refine lv_icmp_le (tgt := 14) hx hb dM_rounds_8 (by decide) (fun c2 => ?_) (fun c2 => ?_)
    · have h := mp_t c2 h
      refine lv_iconst (v := 0) hx hb dM_rounds_14 (by decide) ?_
      refine lv_istore_n (lv' := [(2, .int 0), (0, .ref (ad 0)), (1, .int a1)]) hx hb dM_rounds_15 rfl hl (by decide) rfl (fun ls hl => ?_)
      refine lv_iconst (v := 0) hx hb dM_rounds_16 (by decide) ?_
      refine lv_istore_n (lv' := [(3, .int 0), (2, .int 0), (0, .ref (ad 0)), (1, .int a1)]) hx hb dM_rounds_17 rfl hl (by decide) rfl (fun ls hl => ?_)
      exact lM_rounds_18 cx k ad a1 z hE hAN _ S 0 0 h _ _ hP hD hS ls (lv_sub hl [2, 3, 1, 0] rfl)
    · have h := mp_f c2 h
      refine lv_bipush (v := (-2)) hx hb dM_rounds_11 (by decide) ?_
      exact mp_rim (cf := cM k ad) cx h hP hS dM_rounds_13
theorem cM_rounds (l : Launch) (k : KK) (ad : Nat → Nat) (S : SM) (a1 : Int32) (z : (Int32 × SM)) (h : fM_rounds S a1 = some z) : mp_CM l k yM_rounds bM_rounds 5 (some .int) rmM_rounds [.ref (ad 0), .int a1] (cM k ad S) (cM k ad z.2) (aM ad) (some (.int z.1)) := by
  refine Met.ofW (cc := bM_rounds) (maxL := 5) (ret := (some .int)) (by decide) rfl ?_
  intro p e s m args below meth c s₁ B hml hv
  obtain ⟨rfl, hP, hD, hE⟩ := hv
  have hl := lv_entry ([.ref (ad 0), .int a1]) (n := 5) (Nat.le_of_ble_eq_true rfl)
  rw [lg_entry_eq]
  generalize (lg_sl ([.ref (ad 0), .int a1]) ++ List.replicate (5 - (lg_sl ([.ref (ad 0), .int a1])).length) Slot.unset).toArray = ls at hl ⊢
  exact wM_rounds (mp_C.of B hml) k ad S a1 z hE (mp_new hD rfl) hP (mp_own hD rfl) va_S.rf h ls hl
-- MovingPlaces.countRows
abbrev rmM_countRows_3 : Room := { frames := 5, cells := 0, slots := 0, locals := 113 }
def fM_countRows_3 (S : SM) (a3 : Int32) : Option (Int32 × SM) := (if 3 < a3 then (if 4 = a3 then (fW_threadsThatCan S.2.2.2.2.2.1).bind fun x3 => (fJ_bitCount x3).bind fun x4 => some (x4, S) else (fW_threadsThatCan S.2.2.2.2.2.1).bind fun x6 => (fJ_bitCount x6).bind fun x7 => some (x7, S)) else some (1, S))
set_option maxHeartbeats 4000000 in
set_option maxRecDepth 100000 in
theorem wM_countRows_3 {p : Program} {l : Launch} {e : Env} {s : State} {m : MethodId} {args : Array Value} {below : List Frame} {meth : Method} {c : Code} (cx : mp_C p s m args meth c bM_countRows 7 (some .int) rM) (k : KK) (ad : Nat → Nat) (S : SM) (a3 : Int32) (z : (Int32 × SM)) (hE : mp_E k s) (hAN : ∀ q, mp_A (aM ad) q → mp_N k q) {H : Heap} {locs : List Loc} (hP : va_P (kD k) mp_cls (cM k ad S) H) (hD : va_D (mp_A (aM ad)) (cM k ad S)) (hS : va_S (mp_A (aM ad)) s.heap H locs) (h : fM_countRows_3 S a3 = some z) (ls : Array Slot) (hl : lv_has ls 7 [(0, .ref (ad 0)), (1, .ref (ad 38)), (2, .int 3), (3, .int a3)]) : W p l e rmM_countRows_3 s m args below meth c H locs 0 0 (MQ below (mp_Qm k (some (.int z.1)) (cM k ad z.2) (aM ad)) args s 0 0 (mp_A (aM ad))) (F0 m 0 ls []) := by
  obtain ⟨hx, hb, -, hml, hown, hts, -⟩ := id cx
  unfold fM_countRows_3 at h
  refine lv_iload_n hx hb dM_countRows_0 rfl (lv_at hl 2 rfl) ?_
  refine lv_iload_n hx hb dM_countRows_1 rfl (lv_at hl 3 rfl) ?_
  refine lv_icmp_lt (tgt := 7) hx hb dM_countRows_2 (by decide) (fun c1 => ?_) (fun c1 => ?_)
  · have h := mp_t c1 h
    refine lv_iload_n hx hb dM_countRows_7 rfl (lv_at hl 2 rfl) ?_
    refine lv_iconst (v := 1) hx hb dM_countRows_8 (by decide) ?_
    refine lv_iadd hx hb dM_countRows_9 ?_
    refine mp_top (x := 4) (by decide) ?_
    refine lv_iload_n hx hb dM_countRows_10 rfl (lv_at hl 3 rfl) ?_
    refine lv_icmp_eq (tgt := 23) hx hb dM_countRows_11 (by decide) (fun c2 => ?_) (fun c2 => ?_)
    · have h := mp_t c2 h
      refine lv_aload_n hx hb dM_countRows_23 rfl (lv_at hl 1 rfl) ?_
      obtain ⟨x3, ex3, h⟩ := mp_bs h
      refine mp_si (mp_runV (As := []) (rest := []) cx kV_M_105 (cW_threadsThatCan l k (fun i => ad (i + 38)) S.2.2.2.2.2.1 x3 ex3) ⟨rfl, rfl, Nat.le_of_ble_eq_true rfl, Nat.le_of_ble_eq_true rfl⟩ ⟨Nat.zero_le _, Nat.zero_le _⟩ hE (pM_t2 (S := S) hP) (dM_t2 (S := S) (mp_Dw hD hAN)) (mp_S hS hAN) 0 rfl rfl rfl hl.1 rfl (Nat.le_of_ble_eq_true rfl) dM_countRows_24) ?_
      obtain ⟨x4, ex4, h⟩ := mp_bs h
      refine mp_si (mp_runT (As := [.int x3]) (rest := []) cx kT_M_151 (cJ_bitCount l k x3 x4 ex4) ⟨rfl, rfl, Nat.le_of_ble_eq_true rfl, Nat.le_of_ble_eq_true rfl⟩ ⟨Nat.zero_le _, Nat.zero_le _⟩ hE mp_P0 mp_D0 (mp_S hS hAN) hl.1 rfl (Nat.le_of_ble_eq_true rfl) dM_countRows_27) ?_
      exact mp_rim (cf := cM k ad) cx h hP hS dM_countRows_30
    · have h := mp_f c2 h
      refine lv_iload_n hx hb dM_countRows_14 rfl (lv_at hl 2 rfl) ?_
      refine lv_aload_n hx hb dM_countRows_15 rfl (lv_at hl 0 rfl) ?_
      refine mp_gM cx hE hP iM 0 rfl 3 (by decide) wq_99 rfl (v := .ref (ad 19)) rfl dM_countRows_16 ?_
      refine va_alen hx hb hE.1 hP 19 2 (v := 3) rfl rfl rfl dM_countRows_19 ?_
      refine lv_icmp_lt (tgt := 31) hx hb dM_countRows_20 (by decide) (fun c5 => ?_) (fun c5 => ?_)
      · exact absurd c5 (by decide)
      · refine lv_aload_n hx hb dM_countRows_23 rfl (lv_at hl 1 rfl) ?_
        obtain ⟨x6, ex6, h⟩ := mp_bs h
        refine mp_si (mp_runV (As := []) (rest := []) cx kV_M_105 (cW_threadsThatCan l k (fun i => ad (i + 38)) S.2.2.2.2.2.1 x6 ex6) ⟨rfl, rfl, Nat.le_of_ble_eq_true rfl, Nat.le_of_ble_eq_true rfl⟩ ⟨Nat.zero_le _, Nat.zero_le _⟩ hE (pM_t2 (S := S) hP) (dM_t2 (S := S) (mp_Dw hD hAN)) (mp_S hS hAN) 0 rfl rfl rfl hl.1 rfl (Nat.le_of_ble_eq_true rfl) dM_countRows_24) ?_
        obtain ⟨x7, ex7, h⟩ := mp_bs h
        refine mp_si (mp_runT (As := [.int x6]) (rest := []) cx kT_M_151 (cJ_bitCount l k x6 x7 ex7) ⟨rfl, rfl, Nat.le_of_ble_eq_true rfl, Nat.le_of_ble_eq_true rfl⟩ ⟨Nat.zero_le _, Nat.zero_le _⟩ hE mp_P0 mp_D0 (mp_S hS hAN) hl.1 rfl (Nat.le_of_ble_eq_true rfl) dM_countRows_27) ?_
        exact mp_rim (cf := cM k ad) cx h hP hS dM_countRows_30
  · have h := mp_f c1 h
    refine lv_iconst (v := 1) hx hb dM_countRows_5 (by decide) ?_
    exact mp_rim (cf := cM k ad) cx h hP hS dM_countRows_6
theorem cM_countRows_3 (l : Launch) (k : KK) (ad : Nat → Nat) (S : SM) (a3 : Int32) (z : (Int32 × SM)) (h : fM_countRows_3 S a3 = some z) : mp_CM l k yM_countRows bM_countRows 7 (some .int) rmM_countRows_3 [.ref (ad 0), .ref (ad 38), .int 3, .int a3] (cM k ad S) (cM k ad z.2) (aM ad) (some (.int z.1)) := by
  refine Met.ofW (cc := bM_countRows) (maxL := 7) (ret := (some .int)) (by decide) rfl ?_
  intro p e s m args below meth c s₁ B hml hv
  obtain ⟨rfl, hP, hD, hE⟩ := hv
  have hl := lv_entry ([.ref (ad 0), .ref (ad 38), .int 3, .int a3]) (n := 7) (Nat.le_of_ble_eq_true rfl)
  rw [lg_entry_eq]
  generalize (lg_sl ([.ref (ad 0), .ref (ad 38), .int 3, .int a3]) ++ List.replicate (7 - (lg_sl ([.ref (ad 0), .ref (ad 38), .int 3, .int a3])).length) Slot.unset).toArray = ls at hl ⊢
  exact wM_countRows_3 (mp_C.of B hml) k ad S a3 z hE (mp_new hD rfl) hP (mp_own hD rfl) va_S.rf h ls hl
-- MovingPlaces.countRows
abbrev rmM_countRows_2 : Room := { frames := 6, cells := 0, slots := 0, locals := 139 }
def fM_countRows_2_45 (a3 : Int32) : Nat → SM → Int32 → Int32 → Option (Int32 × SM)
  | 0, _, _, _ => none
  | n + 1, S, a5, a6 => (fW_threadsInAll S.2.2.2.2.1).bind fun x1 => (if x1 ≤ a6 then some (a5, S) else (fW_aimOf S.2.2.2.2.1 a6).bind fun x3 => (if x3 = (-9) then fM_countRows_2_45 a3 n S a5 (a6 + 1) else (fW_become S.2.2.2.2.2.1 S.2.2.2.2.1).bind fun x5 => (fW_doNextAct x5 a6).bind fun x6 => (fM_countRows_3 (S.1, S.2.1, S.2.2.1, S.2.2.2.1, S.2.2.2.2.1, x6.2, S.2.2.2.2.2.2) a3).bind fun x7 => fM_countRows_2_45 a3 n x7.2 (a5 + x7.1) (a6 + 1)))
theorem fM_countRows_2_45_s (a3 : Int32) (n : Nat) (S : SM) (a5 : Int32) (a6 : Int32) : fM_countRows_2_45 a3 (n + 1) S a5 a6 = (fW_threadsInAll S.2.2.2.2.1).bind fun x1 => (if x1 ≤ a6 then some (a5, S) else (fW_aimOf S.2.2.2.2.1 a6).bind fun x3 => (if x3 = (-9) then fM_countRows_2_45 a3 n S a5 (a6 + 1) else (fW_become S.2.2.2.2.2.1 S.2.2.2.2.1).bind fun x5 => (fW_doNextAct x5 a6).bind fun x6 => (fM_countRows_3 (S.1, S.2.1, S.2.2.1, S.2.2.2.1, S.2.2.2.2.1, x6.2, S.2.2.2.2.2.2) a3).bind fun x7 => fM_countRows_2_45 a3 n x7.2 (a5 + x7.1) (a6 + 1))) := rfl
set_option maxHeartbeats 4000000 in
set_option maxRecDepth 100000 in
theorem lM_countRows_2_45 {p : Program} {l : Launch} {e : Env} {s : State} {m : MethodId} {args : Array Value} {below : List Frame} {meth : Method} {c : Code} (cx : mp_C p s m args meth c bM_countRows 7 (some .int) rM) (k : KK) (ad : Nat → Nat) (a3 : Int32) (z : (Int32 × SM)) (hE : mp_E k s) (hAN : ∀ q, mp_A (aM ad) q → mp_N k q) : ∀ (n : Nat) (S : SM) (a5 : Int32) (a6 : Int32), fM_countRows_2_45 a3 n S a5 a6 = some z → ∀ (H : Heap) (locs : List Loc), va_P (kD k) mp_cls (cM k ad S) H → va_D (mp_A (aM ad)) (cM k ad S) → va_S (mp_A (aM ad)) s.heap H locs → ∀ (ls : Array Slot), lv_has ls 7 [(0, .ref (ad 0)), (1, .ref (ad 29)), (2, .int 2), (3, .int a3), (4, .ref (ad 38)), (5, .int a5), (6, .int a6)] → W p l e rmM_countRows_2 s m args below meth c H locs 0 0 (MQ below (mp_Qm k (some (.int z.1)) (cM k ad z.2) (aM ad)) args s 0 0 (mp_A (aM ad))) (F0 m 45 ls []) := by
  obtain ⟨hx, hb, -, hml, hown, hts, -⟩ := id cx
  intro n
  induction n with
  | zero =>
    intro S a5 a6 h
    have h : (none : Option (Int32 × SM)) = some z := h
    cases h
  | succ n ih =>
    intro S a5 a6 h H locs hP hD hS ls hl
    rw [fM_countRows_2_45_s] at h
    refine lv_iload hx hb dM_countRows_45 (lv_at hl 6 rfl) ?_
    refine lv_aload_n hx hb dM_countRows_47 rfl (lv_at hl 1 rfl) ?_
    obtain ⟨x1, ex1, h⟩ := mp_bs h
    refine mp_si (mp_runV (As := []) (rest := [.int a6]) cx kV_M_139 (cW_threadsInAll l k (fun i => ad (i + 29)) S.2.2.2.2.1 x1 ex1) ⟨rfl, rfl, Nat.le_of_ble_eq_true rfl, Nat.le_of_ble_eq_true rfl⟩ ⟨Nat.zero_le _, Nat.zero_le _⟩ hE (pM_t1 (S := S) hP) (dM_t1 (S := S) (mp_Dw hD hAN)) (mp_S hS hAN) 0 rfl rfl rfl hl.1 rfl (Nat.le_of_ble_eq_true rfl) dM_countRows_48) ?_
    refine lv_icmp_ge (tgt := 100) hx hb dM_countRows_51 (by decide) (fun c2 => ?_) (fun c2 => ?_)
    · have h := mp_t c2 h
      refine lv_iload hx hb dM_countRows_100 (lv_at hl 5 rfl) ?_
      exact mp_rim (cf := cM k ad) cx h hP hS dM_countRows_102
    · have h := mp_f c2 h
      refine lv_aload_n hx hb dM_countRows_54 rfl (lv_at hl 1 rfl) ?_
      refine lv_iload hx hb dM_countRows_55 (lv_at hl 6 rfl) ?_
      obtain ⟨x3, ex3, h⟩ := mp_bs h
      refine mp_si (mp_runV (As := [.int a6]) (rest := []) cx kV_M_156 (cW_aimOf l k (fun i => ad (i + 29)) S.2.2.2.2.1 a6 x3 ex3) ⟨rfl, rfl, Nat.le_of_ble_eq_true rfl, Nat.le_of_ble_eq_true rfl⟩ ⟨Nat.zero_le _, Nat.zero_le _⟩ hE (pM_t1 (S := S) hP) (dM_t1 (S := S) (mp_Dw hD hAN)) (mp_S hS hAN) 0 rfl rfl rfl hl.1 rfl (Nat.le_of_ble_eq_true rfl) dM_countRows_57) ?_
      refine lv_bipush (v := (-9)) hx hb dM_countRows_60 (by decide) ?_
      refine lv_icmp_eq (tgt := 94) hx hb dM_countRows_62 (by decide) (fun c4 => ?_) (fun c4 => ?_)
      · have h := mp_t c4 h
        refine lv_iinc (v := (a6 + 1)) (lv' := [(6, .int (a6 + 1)), (0, .ref (ad 0)), (1, .ref (ad 29)), (2, .int 2), (3, .int a3), (4, .ref (ad 38)), (5, .int a5)]) hx hb dM_countRows_94 hl (k := 6) rfl rfl (by decide) rfl (fun ls hl => ?_)
        refine lv_goto (tgt := 45) hx hb dM_countRows_97 (by decide) ?_
        exact ih S a5 (a6 + 1) h _ _ hP hD hS ls (lv_sub hl [1, 2, 3, 4, 5, 6, 0] rfl)
      · have h := mp_f c4 h
        refine lv_aload hx hb dM_countRows_65 (lv_at hl 4 rfl) ?_
        refine lv_aload_n hx hb dM_countRows_67 rfl (lv_at hl 1 rfl) ?_
        obtain ⟨x5, ex5, h⟩ := mp_bs h
        refine mp_mv (mp_runV (As := [.ref (ad 29)]) (rest := []) cx kV_M_132 (cW_become l k (fun i => ad (i + 38)) (fun i => ad (i + 29)) S.2.2.2.2.1 S.2.2.2.2.2.1 x5 ex5) ⟨rfl, rfl, Nat.le_of_ble_eq_true rfl, Nat.le_of_ble_eq_true rfl⟩ ⟨Nat.zero_le _, Nat.zero_le _⟩ hE (pM_t2_t1 (S := S) hP) (dM_t2_t1 (S := S) (mp_Dw hD hAN)) (mp_S hS hAN) 0 rfl rfl rfl hl.1 rfl (Nat.le_of_ble_eq_true rfl) dM_countRows_68) hS (fun q h9 => mp_new (dM_t2_t1 (S := S) hD) rfl q h9) (fun H1 locs hP1 hk hS => ?_)
        have hP : va_P (kD k) mp_cls (cM k ad (S.1, S.2.1, S.2.2.1, S.2.2.2.1, S.2.2.2.2.1, x5, S.2.2.2.2.2.2)) H1 := jM_t2_t1 (S := S) hP hD hk hP1
        have hD : va_D (mp_A (aM ad)) (cM k ad (S.1, S.2.1, S.2.2.1, S.2.2.2.1, S.2.2.2.2.1, x5, S.2.2.2.2.2.2)) := mp_Ds hD rfl
        refine lv_aload hx hb dM_countRows_71 (lv_at hl 4 rfl) ?_
        refine lv_iload hx hb dM_countRows_73 (lv_at hl 6 rfl) ?_
        obtain ⟨x6, ex6, h⟩ := mp_bs h
        refine mp_mi (mp_runV (As := [.int a6]) (rest := []) cx kV_M_109 (cW_doNextAct l k (fun i => ad (i + 38)) x5 a6 x6 ex6) ⟨rfl, rfl, Nat.le_of_ble_eq_true rfl, Nat.le_of_ble_eq_true rfl⟩ ⟨Nat.zero_le _, Nat.zero_le _⟩ hE (pM_t2 (S := (S.1, S.2.1, S.2.2.1, S.2.2.2.1, S.2.2.2.2.1, x5, S.2.2.2.2.2.2)) hP) (dM_t2 (S := (S.1, S.2.1, S.2.2.1, S.2.2.2.1, S.2.2.2.2.1, x5, S.2.2.2.2.2.2)) (mp_Dw hD hAN)) (mp_S hS hAN) 0 rfl rfl rfl hl.1 rfl (Nat.le_of_ble_eq_true rfl) dM_countRows_75) hS (fun q h9 => mp_new (dM_t2 (S := (S.1, S.2.1, S.2.2.1, S.2.2.2.1, S.2.2.2.2.1, x5, S.2.2.2.2.2.2)) hD) rfl q h9) (fun H1 locs hP1 hk hS => ?_)
        have hP : va_P (kD k) mp_cls (cM k ad (S.1, S.2.1, S.2.2.1, S.2.2.2.1, S.2.2.2.2.1, x6.2, S.2.2.2.2.2.2)) H1 := jM_t2 (S := (S.1, S.2.1, S.2.2.1, S.2.2.2.1, S.2.2.2.2.1, x5, S.2.2.2.2.2.2)) hP hD hk hP1
        have hD : va_D (mp_A (aM ad)) (cM k ad (S.1, S.2.1, S.2.2.1, S.2.2.2.1, S.2.2.2.2.1, x6.2, S.2.2.2.2.2.2)) := mp_Ds hD rfl
        refine lv_pop hx hb dM_countRows_78 rfl ?_
        refine lv_iload hx hb dM_countRows_79 (lv_at hl 5 rfl) ?_
        refine lv_aload_n hx hb dM_countRows_81 rfl (lv_at hl 0 rfl) ?_
        refine lv_aload hx hb dM_countRows_82 (lv_at hl 4 rfl) ?_
        refine lv_iload_n hx hb dM_countRows_84 rfl (lv_at hl 2 rfl) ?_
        refine lv_iconst (v := 1) hx hb dM_countRows_85 (by decide) ?_
        refine lv_iadd hx hb dM_countRows_86 ?_
        refine mp_top (x := 3) (by decide) ?_
        refine lv_iload_n hx hb dM_countRows_87 rfl (lv_at hl 3 rfl) ?_
        obtain ⟨x7, ex7, h⟩ := mp_bs h
        refine mp_mi (mp_runV (As := [.ref (ad 38), .int 3, .int a3]) (rest := [.int a5]) cx kV_M_115 (cM_countRows_3 l k ad (S.1, S.2.1, S.2.2.1, S.2.2.2.1, S.2.2.2.2.1, x6.2, S.2.2.2.2.2.2) a3 x7 ex7) ⟨rfl, rfl, Nat.le_of_ble_eq_true rfl, Nat.le_of_ble_eq_true rfl⟩ ⟨Nat.zero_le _, Nat.zero_le _⟩ hE hP (mp_Dw hD hAN) (mp_S hS hAN) 0 rfl rfl rfl hl.1 rfl (Nat.le_of_ble_eq_true rfl) dM_countRows_88) hS (fun _ h9 => h9) (fun H locs hP hk hS => ?_)
        have hD : va_D (mp_A (aM ad)) (cM k ad x7.2) := mp_Ds hD rfl
        refine lv_iadd hx hb dM_countRows_91 ?_
        refine lv_istore (lv' := [(5, .int (a5 + x7.1)), (0, .ref (ad 0)), (1, .ref (ad 29)), (2, .int 2), (3, .int a3), (4, .ref (ad 38)), (6, .int a6)]) hx hb dM_countRows_92 hl (by decide) rfl (fun ls hl => ?_)
        refine lv_iinc (v := (a6 + 1)) (lv' := [(6, .int (a6 + 1)), (5, .int (a5 + x7.1)), (0, .ref (ad 0)), (1, .ref (ad 29)), (2, .int 2), (3, .int a3), (4, .ref (ad 38))]) hx hb dM_countRows_94 hl (k := 6) rfl rfl (by decide) rfl (fun ls hl => ?_)
        refine lv_goto (tgt := 45) hx hb dM_countRows_97 (by decide) ?_
        exact ih x7.2 (a5 + x7.1) (a6 + 1) h _ _ hP hD hS ls (lv_sub hl [2, 3, 4, 5, 6, 1, 0] rfl)
def fM_countRows_2 (S : SM) (a3 : Int32) : Option (Int32 × SM) := (if 2 < a3 then (if 3 = a3 then (fW_threadsThatCan S.2.2.2.2.1).bind fun x3 => (fJ_bitCount x3).bind fun x4 => some (x4, S) else fM_countRows_2_45 a3 2000 S 0 0) else some (1, S))
set_option maxHeartbeats 4000000 in
set_option maxRecDepth 100000 in
theorem wM_countRows_2 {p : Program} {l : Launch} {e : Env} {s : State} {m : MethodId} {args : Array Value} {below : List Frame} {meth : Method} {c : Code} (cx : mp_C p s m args meth c bM_countRows 7 (some .int) rM) (k : KK) (ad : Nat → Nat) (S : SM) (a3 : Int32) (z : (Int32 × SM)) (hE : mp_E k s) (hAN : ∀ q, mp_A (aM ad) q → mp_N k q) {H : Heap} {locs : List Loc} (hP : va_P (kD k) mp_cls (cM k ad S) H) (hD : va_D (mp_A (aM ad)) (cM k ad S)) (hS : va_S (mp_A (aM ad)) s.heap H locs) (h : fM_countRows_2 S a3 = some z) (ls : Array Slot) (hl : lv_has ls 7 [(0, .ref (ad 0)), (1, .ref (ad 29)), (2, .int 2), (3, .int a3)]) : W p l e rmM_countRows_2 s m args below meth c H locs 0 0 (MQ below (mp_Qm k (some (.int z.1)) (cM k ad z.2) (aM ad)) args s 0 0 (mp_A (aM ad))) (F0 m 0 ls []) := by
  obtain ⟨hx, hb, -, hml, hown, hts, -⟩ := id cx
  unfold fM_countRows_2 at h
  refine lv_iload_n hx hb dM_countRows_0 rfl (lv_at hl 2 rfl) ?_
  refine lv_iload_n hx hb dM_countRows_1 rfl (lv_at hl 3 rfl) ?_
  refine lv_icmp_lt (tgt := 7) hx hb dM_countRows_2 (by decide) (fun c1 => ?_) (fun c1 => ?_)
  · have h := mp_t c1 h
    refine lv_iload_n hx hb dM_countRows_7 rfl (lv_at hl 2 rfl) ?_
    refine lv_iconst (v := 1) hx hb dM_countRows_8 (by decide) ?_
    refine lv_iadd hx hb dM_countRows_9 ?_
    refine mp_top (x := 3) (by decide) ?_
    refine lv_iload_n hx hb dM_countRows_10 rfl (lv_at hl 3 rfl) ?_
    refine lv_icmp_eq (tgt := 23) hx hb dM_countRows_11 (by decide) (fun c2 => ?_) (fun c2 => ?_)
    · have h := mp_t c2 h
      refine lv_aload_n hx hb dM_countRows_23 rfl (lv_at hl 1 rfl) ?_
      obtain ⟨x3, ex3, h⟩ := mp_bs h
      refine mp_si (mp_runV (As := []) (rest := []) cx kV_M_105 (cW_threadsThatCan l k (fun i => ad (i + 29)) S.2.2.2.2.1 x3 ex3) ⟨rfl, rfl, Nat.le_of_ble_eq_true rfl, Nat.le_of_ble_eq_true rfl⟩ ⟨Nat.zero_le _, Nat.zero_le _⟩ hE (pM_t1 (S := S) hP) (dM_t1 (S := S) (mp_Dw hD hAN)) (mp_S hS hAN) 0 rfl rfl rfl hl.1 rfl (Nat.le_of_ble_eq_true rfl) dM_countRows_24) ?_
      obtain ⟨x4, ex4, h⟩ := mp_bs h
      refine mp_si (mp_runT (As := [.int x3]) (rest := []) cx kT_M_151 (cJ_bitCount l k x3 x4 ex4) ⟨rfl, rfl, Nat.le_of_ble_eq_true rfl, Nat.le_of_ble_eq_true rfl⟩ ⟨Nat.zero_le _, Nat.zero_le _⟩ hE mp_P0 mp_D0 (mp_S hS hAN) hl.1 rfl (Nat.le_of_ble_eq_true rfl) dM_countRows_27) ?_
      exact mp_rim (cf := cM k ad) cx h hP hS dM_countRows_30
    · have h := mp_f c2 h
      refine lv_iload_n hx hb dM_countRows_14 rfl (lv_at hl 2 rfl) ?_
      refine lv_aload_n hx hb dM_countRows_15 rfl (lv_at hl 0 rfl) ?_
      refine mp_gM cx hE hP iM 0 rfl 3 (by decide) wq_99 rfl (v := .ref (ad 19)) rfl dM_countRows_16 ?_
      refine va_alen hx hb hE.1 hP 19 2 (v := 3) rfl rfl rfl dM_countRows_19 ?_
      refine lv_icmp_lt (tgt := 31) hx hb dM_countRows_20 (by decide) (fun c5 => ?_) (fun c5 => ?_)
      · refine lv_aload_n hx hb dM_countRows_31 rfl (lv_at hl 0 rfl) ?_
        refine mp_gM cx hE hP iM 0 rfl 3 (by decide) wq_99 rfl (v := .ref (ad 19)) rfl dM_countRows_32 ?_
        refine lv_iload_n hx hb dM_countRows_35 rfl (lv_at hl 2 rfl) ?_
        refine mp_aald hx hb hE.1 hP 19 2 (f := mp_tr ad) (n := 3) (b := ad 38) rfl rfl (by decide) rfl dM_countRows_36 ?_
        refine lv_astore (lv' := [(4, .ref (ad 38)), (0, .ref (ad 0)), (1, .ref (ad 29)), (2, .int 2), (3, .int a3)]) hx hb dM_countRows_37 hl (by decide) rfl (fun ls hl => ?_)
        refine lv_iconst (v := 0) hx hb dM_countRows_39 (by decide) ?_
        refine lv_istore (lv' := [(5, .int 0), (4, .ref (ad 38)), (0, .ref (ad 0)), (1, .ref (ad 29)), (2, .int 2), (3, .int a3)]) hx hb dM_countRows_40 hl (by decide) rfl (fun ls hl => ?_)
        refine lv_iconst (v := 0) hx hb dM_countRows_42 (by decide) ?_
        refine lv_istore (lv' := [(6, .int 0), (5, .int 0), (4, .ref (ad 38)), (0, .ref (ad 0)), (1, .ref (ad 29)), (2, .int 2), (3, .int a3)]) hx hb dM_countRows_43 hl (by decide) rfl (fun ls hl => ?_)
        exact lM_countRows_2_45 cx k ad a3 z hE hAN _ S 0 0 h _ _ hP hD hS ls (lv_sub hl [3, 4, 5, 6, 2, 1, 0] rfl)
      · exact absurd (by decide) c5
  · have h := mp_f c1 h
    refine lv_iconst (v := 1) hx hb dM_countRows_5 (by decide) ?_
    exact mp_rim (cf := cM k ad) cx h hP hS dM_countRows_6
theorem cM_countRows_2 (l : Launch) (k : KK) (ad : Nat → Nat) (S : SM) (a3 : Int32) (z : (Int32 × SM)) (h : fM_countRows_2 S a3 = some z) : mp_CM l k yM_countRows bM_countRows 7 (some .int) rmM_countRows_2 [.ref (ad 0), .ref (ad 29), .int 2, .int a3] (cM k ad S) (cM k ad z.2) (aM ad) (some (.int z.1)) := by
  refine Met.ofW (cc := bM_countRows) (maxL := 7) (ret := (some .int)) (by decide) rfl ?_
  intro p e s m args below meth c s₁ B hml hv
  obtain ⟨rfl, hP, hD, hE⟩ := hv
  have hl := lv_entry ([.ref (ad 0), .ref (ad 29), .int 2, .int a3]) (n := 7) (Nat.le_of_ble_eq_true rfl)
  rw [lg_entry_eq]
  generalize (lg_sl ([.ref (ad 0), .ref (ad 29), .int 2, .int a3]) ++ List.replicate (7 - (lg_sl ([.ref (ad 0), .ref (ad 29), .int 2, .int a3])).length) Slot.unset).toArray = ls at hl ⊢
  exact wM_countRows_2 (mp_C.of B hml) k ad S a3 z hE (mp_new hD rfl) hP (mp_own hD rfl) va_S.rf h ls hl
-- MovingPlaces.countRows
abbrev rmM_countRows_1 : Room := { frames := 7, cells := 0, slots := 0, locals := 165 }
def fM_countRows_1_45 (a3 : Int32) : Nat → SM → Int32 → Int32 → Option (Int32 × SM)
  | 0, _, _, _ => none
  | n + 1, S, a5, a6 => (fW_threadsInAll S.2.2.2.1).bind fun x1 => (if x1 ≤ a6 then some (a5, S) else (fW_aimOf S.2.2.2.1 a6).bind fun x3 => (if x3 = (-9) then fM_countRows_1_45 a3 n S a5 (a6 + 1) else (fW_become S.2.2.2.2.1 S.2.2.2.1).bind fun x5 => (fW_doNextAct x5 a6).bind fun x6 => (fM_countRows_2 (S.1, S.2.1, S.2.2.1, S.2.2.2.1, x6.2, S.2.2.2.2.2.1, S.2.2.2.2.2.2) a3).bind fun x7 => fM_countRows_1_45 a3 n x7.2 (a5 + x7.1) (a6 + 1)))
theorem fM_countRows_1_45_s (a3 : Int32) (n : Nat) (S : SM) (a5 : Int32) (a6 : Int32) : fM_countRows_1_45 a3 (n + 1) S a5 a6 = (fW_threadsInAll S.2.2.2.1).bind fun x1 => (if x1 ≤ a6 then some (a5, S) else (fW_aimOf S.2.2.2.1 a6).bind fun x3 => (if x3 = (-9) then fM_countRows_1_45 a3 n S a5 (a6 + 1) else (fW_become S.2.2.2.2.1 S.2.2.2.1).bind fun x5 => (fW_doNextAct x5 a6).bind fun x6 => (fM_countRows_2 (S.1, S.2.1, S.2.2.1, S.2.2.2.1, x6.2, S.2.2.2.2.2.1, S.2.2.2.2.2.2) a3).bind fun x7 => fM_countRows_1_45 a3 n x7.2 (a5 + x7.1) (a6 + 1))) := rfl
set_option maxHeartbeats 4000000 in
set_option maxRecDepth 100000 in
theorem lM_countRows_1_45 {p : Program} {l : Launch} {e : Env} {s : State} {m : MethodId} {args : Array Value} {below : List Frame} {meth : Method} {c : Code} (cx : mp_C p s m args meth c bM_countRows 7 (some .int) rM) (k : KK) (ad : Nat → Nat) (a3 : Int32) (z : (Int32 × SM)) (hE : mp_E k s) (hAN : ∀ q, mp_A (aM ad) q → mp_N k q) : ∀ (n : Nat) (S : SM) (a5 : Int32) (a6 : Int32), fM_countRows_1_45 a3 n S a5 a6 = some z → ∀ (H : Heap) (locs : List Loc), va_P (kD k) mp_cls (cM k ad S) H → va_D (mp_A (aM ad)) (cM k ad S) → va_S (mp_A (aM ad)) s.heap H locs → ∀ (ls : Array Slot), lv_has ls 7 [(0, .ref (ad 0)), (1, .ref (ad 20)), (2, .int 1), (3, .int a3), (4, .ref (ad 29)), (5, .int a5), (6, .int a6)] → W p l e rmM_countRows_1 s m args below meth c H locs 0 0 (MQ below (mp_Qm k (some (.int z.1)) (cM k ad z.2) (aM ad)) args s 0 0 (mp_A (aM ad))) (F0 m 45 ls []) := by
  obtain ⟨hx, hb, -, hml, hown, hts, -⟩ := id cx
  intro n
  induction n with
  | zero =>
    intro S a5 a6 h
    have h : (none : Option (Int32 × SM)) = some z := h
    cases h
  | succ n ih =>
    intro S a5 a6 h H locs hP hD hS ls hl
    rw [fM_countRows_1_45_s] at h
    refine lv_iload hx hb dM_countRows_45 (lv_at hl 6 rfl) ?_
    refine lv_aload_n hx hb dM_countRows_47 rfl (lv_at hl 1 rfl) ?_
    obtain ⟨x1, ex1, h⟩ := mp_bs h
    refine mp_si (mp_runV (As := []) (rest := [.int a6]) cx kV_M_139 (cW_threadsInAll l k (fun i => ad (i + 20)) S.2.2.2.1 x1 ex1) ⟨rfl, rfl, Nat.le_of_ble_eq_true rfl, Nat.le_of_ble_eq_true rfl⟩ ⟨Nat.zero_le _, Nat.zero_le _⟩ hE (pM_t0 (S := S) hP) (dM_t0 (S := S) (mp_Dw hD hAN)) (mp_S hS hAN) 0 rfl rfl rfl hl.1 rfl (Nat.le_of_ble_eq_true rfl) dM_countRows_48) ?_
    refine lv_icmp_ge (tgt := 100) hx hb dM_countRows_51 (by decide) (fun c2 => ?_) (fun c2 => ?_)
    · have h := mp_t c2 h
      refine lv_iload hx hb dM_countRows_100 (lv_at hl 5 rfl) ?_
      exact mp_rim (cf := cM k ad) cx h hP hS dM_countRows_102
    · have h := mp_f c2 h
      refine lv_aload_n hx hb dM_countRows_54 rfl (lv_at hl 1 rfl) ?_
      refine lv_iload hx hb dM_countRows_55 (lv_at hl 6 rfl) ?_
      obtain ⟨x3, ex3, h⟩ := mp_bs h
      refine mp_si (mp_runV (As := [.int a6]) (rest := []) cx kV_M_156 (cW_aimOf l k (fun i => ad (i + 20)) S.2.2.2.1 a6 x3 ex3) ⟨rfl, rfl, Nat.le_of_ble_eq_true rfl, Nat.le_of_ble_eq_true rfl⟩ ⟨Nat.zero_le _, Nat.zero_le _⟩ hE (pM_t0 (S := S) hP) (dM_t0 (S := S) (mp_Dw hD hAN)) (mp_S hS hAN) 0 rfl rfl rfl hl.1 rfl (Nat.le_of_ble_eq_true rfl) dM_countRows_57) ?_
      refine lv_bipush (v := (-9)) hx hb dM_countRows_60 (by decide) ?_
      refine lv_icmp_eq (tgt := 94) hx hb dM_countRows_62 (by decide) (fun c4 => ?_) (fun c4 => ?_)
      · have h := mp_t c4 h
        refine lv_iinc (v := (a6 + 1)) (lv' := [(6, .int (a6 + 1)), (0, .ref (ad 0)), (1, .ref (ad 20)), (2, .int 1), (3, .int a3), (4, .ref (ad 29)), (5, .int a5)]) hx hb dM_countRows_94 hl (k := 6) rfl rfl (by decide) rfl (fun ls hl => ?_)
        refine lv_goto (tgt := 45) hx hb dM_countRows_97 (by decide) ?_
        exact ih S a5 (a6 + 1) h _ _ hP hD hS ls (lv_sub hl [1, 2, 3, 4, 5, 6, 0] rfl)
      · have h := mp_f c4 h
        refine lv_aload hx hb dM_countRows_65 (lv_at hl 4 rfl) ?_
        refine lv_aload_n hx hb dM_countRows_67 rfl (lv_at hl 1 rfl) ?_
        obtain ⟨x5, ex5, h⟩ := mp_bs h
        refine mp_mv (mp_runV (As := [.ref (ad 20)]) (rest := []) cx kV_M_132 (cW_become l k (fun i => ad (i + 29)) (fun i => ad (i + 20)) S.2.2.2.1 S.2.2.2.2.1 x5 ex5) ⟨rfl, rfl, Nat.le_of_ble_eq_true rfl, Nat.le_of_ble_eq_true rfl⟩ ⟨Nat.zero_le _, Nat.zero_le _⟩ hE (pM_t1_t0 (S := S) hP) (dM_t1_t0 (S := S) (mp_Dw hD hAN)) (mp_S hS hAN) 0 rfl rfl rfl hl.1 rfl (Nat.le_of_ble_eq_true rfl) dM_countRows_68) hS (fun q h9 => mp_new (dM_t1_t0 (S := S) hD) rfl q h9) (fun H1 locs hP1 hk hS => ?_)
        have hP : va_P (kD k) mp_cls (cM k ad (S.1, S.2.1, S.2.2.1, S.2.2.2.1, x5, S.2.2.2.2.2.1, S.2.2.2.2.2.2)) H1 := jM_t1_t0 (S := S) hP hD hk hP1
        have hD : va_D (mp_A (aM ad)) (cM k ad (S.1, S.2.1, S.2.2.1, S.2.2.2.1, x5, S.2.2.2.2.2.1, S.2.2.2.2.2.2)) := mp_Ds hD rfl
        refine lv_aload hx hb dM_countRows_71 (lv_at hl 4 rfl) ?_
        refine lv_iload hx hb dM_countRows_73 (lv_at hl 6 rfl) ?_
        obtain ⟨x6, ex6, h⟩ := mp_bs h
        refine mp_mi (mp_runV (As := [.int a6]) (rest := []) cx kV_M_109 (cW_doNextAct l k (fun i => ad (i + 29)) x5 a6 x6 ex6) ⟨rfl, rfl, Nat.le_of_ble_eq_true rfl, Nat.le_of_ble_eq_true rfl⟩ ⟨Nat.zero_le _, Nat.zero_le _⟩ hE (pM_t1 (S := (S.1, S.2.1, S.2.2.1, S.2.2.2.1, x5, S.2.2.2.2.2.1, S.2.2.2.2.2.2)) hP) (dM_t1 (S := (S.1, S.2.1, S.2.2.1, S.2.2.2.1, x5, S.2.2.2.2.2.1, S.2.2.2.2.2.2)) (mp_Dw hD hAN)) (mp_S hS hAN) 0 rfl rfl rfl hl.1 rfl (Nat.le_of_ble_eq_true rfl) dM_countRows_75) hS (fun q h9 => mp_new (dM_t1 (S := (S.1, S.2.1, S.2.2.1, S.2.2.2.1, x5, S.2.2.2.2.2.1, S.2.2.2.2.2.2)) hD) rfl q h9) (fun H1 locs hP1 hk hS => ?_)
        have hP : va_P (kD k) mp_cls (cM k ad (S.1, S.2.1, S.2.2.1, S.2.2.2.1, x6.2, S.2.2.2.2.2.1, S.2.2.2.2.2.2)) H1 := jM_t1 (S := (S.1, S.2.1, S.2.2.1, S.2.2.2.1, x5, S.2.2.2.2.2.1, S.2.2.2.2.2.2)) hP hD hk hP1
        have hD : va_D (mp_A (aM ad)) (cM k ad (S.1, S.2.1, S.2.2.1, S.2.2.2.1, x6.2, S.2.2.2.2.2.1, S.2.2.2.2.2.2)) := mp_Ds hD rfl
        refine lv_pop hx hb dM_countRows_78 rfl ?_
        refine lv_iload hx hb dM_countRows_79 (lv_at hl 5 rfl) ?_
        refine lv_aload_n hx hb dM_countRows_81 rfl (lv_at hl 0 rfl) ?_
        refine lv_aload hx hb dM_countRows_82 (lv_at hl 4 rfl) ?_
        refine lv_iload_n hx hb dM_countRows_84 rfl (lv_at hl 2 rfl) ?_
        refine lv_iconst (v := 1) hx hb dM_countRows_85 (by decide) ?_
        refine lv_iadd hx hb dM_countRows_86 ?_
        refine mp_top (x := 2) (by decide) ?_
        refine lv_iload_n hx hb dM_countRows_87 rfl (lv_at hl 3 rfl) ?_
        obtain ⟨x7, ex7, h⟩ := mp_bs h
        refine mp_mi (mp_runV (As := [.ref (ad 29), .int 2, .int a3]) (rest := [.int a5]) cx kV_M_115 (cM_countRows_2 l k ad (S.1, S.2.1, S.2.2.1, S.2.2.2.1, x6.2, S.2.2.2.2.2.1, S.2.2.2.2.2.2) a3 x7 ex7) ⟨rfl, rfl, Nat.le_of_ble_eq_true rfl, Nat.le_of_ble_eq_true rfl⟩ ⟨Nat.zero_le _, Nat.zero_le _⟩ hE hP (mp_Dw hD hAN) (mp_S hS hAN) 0 rfl rfl rfl hl.1 rfl (Nat.le_of_ble_eq_true rfl) dM_countRows_88) hS (fun _ h9 => h9) (fun H locs hP hk hS => ?_)
        have hD : va_D (mp_A (aM ad)) (cM k ad x7.2) := mp_Ds hD rfl
        refine lv_iadd hx hb dM_countRows_91 ?_
        refine lv_istore (lv' := [(5, .int (a5 + x7.1)), (0, .ref (ad 0)), (1, .ref (ad 20)), (2, .int 1), (3, .int a3), (4, .ref (ad 29)), (6, .int a6)]) hx hb dM_countRows_92 hl (by decide) rfl (fun ls hl => ?_)
        refine lv_iinc (v := (a6 + 1)) (lv' := [(6, .int (a6 + 1)), (5, .int (a5 + x7.1)), (0, .ref (ad 0)), (1, .ref (ad 20)), (2, .int 1), (3, .int a3), (4, .ref (ad 29))]) hx hb dM_countRows_94 hl (k := 6) rfl rfl (by decide) rfl (fun ls hl => ?_)
        refine lv_goto (tgt := 45) hx hb dM_countRows_97 (by decide) ?_
        exact ih x7.2 (a5 + x7.1) (a6 + 1) h _ _ hP hD hS ls (lv_sub hl [2, 3, 4, 5, 6, 1, 0] rfl)
def fM_countRows_1 (S : SM) (a3 : Int32) : Option (Int32 × SM) := (if 1 < a3 then (if 2 = a3 then (fW_threadsThatCan S.2.2.2.1).bind fun x3 => (fJ_bitCount x3).bind fun x4 => some (x4, S) else fM_countRows_1_45 a3 2000 S 0 0) else some (1, S))
set_option maxHeartbeats 4000000 in
set_option maxRecDepth 100000 in
theorem wM_countRows_1 {p : Program} {l : Launch} {e : Env} {s : State} {m : MethodId} {args : Array Value} {below : List Frame} {meth : Method} {c : Code} (cx : mp_C p s m args meth c bM_countRows 7 (some .int) rM) (k : KK) (ad : Nat → Nat) (S : SM) (a3 : Int32) (z : (Int32 × SM)) (hE : mp_E k s) (hAN : ∀ q, mp_A (aM ad) q → mp_N k q) {H : Heap} {locs : List Loc} (hP : va_P (kD k) mp_cls (cM k ad S) H) (hD : va_D (mp_A (aM ad)) (cM k ad S)) (hS : va_S (mp_A (aM ad)) s.heap H locs) (h : fM_countRows_1 S a3 = some z) (ls : Array Slot) (hl : lv_has ls 7 [(0, .ref (ad 0)), (1, .ref (ad 20)), (2, .int 1), (3, .int a3)]) : W p l e rmM_countRows_1 s m args below meth c H locs 0 0 (MQ below (mp_Qm k (some (.int z.1)) (cM k ad z.2) (aM ad)) args s 0 0 (mp_A (aM ad))) (F0 m 0 ls []) := by
  obtain ⟨hx, hb, -, hml, hown, hts, -⟩ := id cx
  unfold fM_countRows_1 at h
  refine lv_iload_n hx hb dM_countRows_0 rfl (lv_at hl 2 rfl) ?_
  refine lv_iload_n hx hb dM_countRows_1 rfl (lv_at hl 3 rfl) ?_
  refine lv_icmp_lt (tgt := 7) hx hb dM_countRows_2 (by decide) (fun c1 => ?_) (fun c1 => ?_)
  · have h := mp_t c1 h
    refine lv_iload_n hx hb dM_countRows_7 rfl (lv_at hl 2 rfl) ?_
    refine lv_iconst (v := 1) hx hb dM_countRows_8 (by decide) ?_
    refine lv_iadd hx hb dM_countRows_9 ?_
    refine mp_top (x := 2) (by decide) ?_
    refine lv_iload_n hx hb dM_countRows_10 rfl (lv_at hl 3 rfl) ?_
    refine lv_icmp_eq (tgt := 23) hx hb dM_countRows_11 (by decide) (fun c2 => ?_) (fun c2 => ?_)
    · have h := mp_t c2 h
      refine lv_aload_n hx hb dM_countRows_23 rfl (lv_at hl 1 rfl) ?_
      obtain ⟨x3, ex3, h⟩ := mp_bs h
      refine mp_si (mp_runV (As := []) (rest := []) cx kV_M_105 (cW_threadsThatCan l k (fun i => ad (i + 20)) S.2.2.2.1 x3 ex3) ⟨rfl, rfl, Nat.le_of_ble_eq_true rfl, Nat.le_of_ble_eq_true rfl⟩ ⟨Nat.zero_le _, Nat.zero_le _⟩ hE (pM_t0 (S := S) hP) (dM_t0 (S := S) (mp_Dw hD hAN)) (mp_S hS hAN) 0 rfl rfl rfl hl.1 rfl (Nat.le_of_ble_eq_true rfl) dM_countRows_24) ?_
      obtain ⟨x4, ex4, h⟩ := mp_bs h
      refine mp_si (mp_runT (As := [.int x3]) (rest := []) cx kT_M_151 (cJ_bitCount l k x3 x4 ex4) ⟨rfl, rfl, Nat.le_of_ble_eq_true rfl, Nat.le_of_ble_eq_true rfl⟩ ⟨Nat.zero_le _, Nat.zero_le _⟩ hE mp_P0 mp_D0 (mp_S hS hAN) hl.1 rfl (Nat.le_of_ble_eq_true rfl) dM_countRows_27) ?_
      exact mp_rim (cf := cM k ad) cx h hP hS dM_countRows_30
    · have h := mp_f c2 h
      refine lv_iload_n hx hb dM_countRows_14 rfl (lv_at hl 2 rfl) ?_
      refine lv_aload_n hx hb dM_countRows_15 rfl (lv_at hl 0 rfl) ?_
      refine mp_gM cx hE hP iM 0 rfl 3 (by decide) wq_99 rfl (v := .ref (ad 19)) rfl dM_countRows_16 ?_
      refine va_alen hx hb hE.1 hP 19 2 (v := 3) rfl rfl rfl dM_countRows_19 ?_
      refine lv_icmp_lt (tgt := 31) hx hb dM_countRows_20 (by decide) (fun c5 => ?_) (fun c5 => ?_)
      · refine lv_aload_n hx hb dM_countRows_31 rfl (lv_at hl 0 rfl) ?_
        refine mp_gM cx hE hP iM 0 rfl 3 (by decide) wq_99 rfl (v := .ref (ad 19)) rfl dM_countRows_32 ?_
        refine lv_iload_n hx hb dM_countRows_35 rfl (lv_at hl 2 rfl) ?_
        refine mp_aald hx hb hE.1 hP 19 2 (f := mp_tr ad) (n := 3) (b := ad 29) rfl rfl (by decide) rfl dM_countRows_36 ?_
        refine lv_astore (lv' := [(4, .ref (ad 29)), (0, .ref (ad 0)), (1, .ref (ad 20)), (2, .int 1), (3, .int a3)]) hx hb dM_countRows_37 hl (by decide) rfl (fun ls hl => ?_)
        refine lv_iconst (v := 0) hx hb dM_countRows_39 (by decide) ?_
        refine lv_istore (lv' := [(5, .int 0), (4, .ref (ad 29)), (0, .ref (ad 0)), (1, .ref (ad 20)), (2, .int 1), (3, .int a3)]) hx hb dM_countRows_40 hl (by decide) rfl (fun ls hl => ?_)
        refine lv_iconst (v := 0) hx hb dM_countRows_42 (by decide) ?_
        refine lv_istore (lv' := [(6, .int 0), (5, .int 0), (4, .ref (ad 29)), (0, .ref (ad 0)), (1, .ref (ad 20)), (2, .int 1), (3, .int a3)]) hx hb dM_countRows_43 hl (by decide) rfl (fun ls hl => ?_)
        exact lM_countRows_1_45 cx k ad a3 z hE hAN _ S 0 0 h _ _ hP hD hS ls (lv_sub hl [3, 4, 5, 6, 2, 1, 0] rfl)
      · exact absurd (by decide) c5
  · have h := mp_f c1 h
    refine lv_iconst (v := 1) hx hb dM_countRows_5 (by decide) ?_
    exact mp_rim (cf := cM k ad) cx h hP hS dM_countRows_6
theorem cM_countRows_1 (l : Launch) (k : KK) (ad : Nat → Nat) (S : SM) (a3 : Int32) (z : (Int32 × SM)) (h : fM_countRows_1 S a3 = some z) : mp_CM l k yM_countRows bM_countRows 7 (some .int) rmM_countRows_1 [.ref (ad 0), .ref (ad 20), .int 1, .int a3] (cM k ad S) (cM k ad z.2) (aM ad) (some (.int z.1)) := by
  refine Met.ofW (cc := bM_countRows) (maxL := 7) (ret := (some .int)) (by decide) rfl ?_
  intro p e s m args below meth c s₁ B hml hv
  obtain ⟨rfl, hP, hD, hE⟩ := hv
  have hl := lv_entry ([.ref (ad 0), .ref (ad 20), .int 1, .int a3]) (n := 7) (Nat.le_of_ble_eq_true rfl)
  rw [lg_entry_eq]
  generalize (lg_sl ([.ref (ad 0), .ref (ad 20), .int 1, .int a3]) ++ List.replicate (7 - (lg_sl ([.ref (ad 0), .ref (ad 20), .int 1, .int a3])).length) Slot.unset).toArray = ls at hl ⊢
  exact wM_countRows_1 (mp_C.of B hml) k ad S a3 z hE (mp_new hD rfl) hP (mp_own hD rfl) va_S.rf h ls hl
-- MovingPlaces.countRows
abbrev rmM_countRows_0 : Room := { frames := 8, cells := 0, slots := 0, locals := 191 }
def fM_countRows_0_45 (a3 : Int32) : Nat → SM → Int32 → Int32 → Option (Int32 × SM)
  | 0, _, _, _ => none
  | n + 1, S, a5, a6 => (fW_threadsInAll S.1).bind fun x1 => (if x1 ≤ a6 then some (a5, S) else (fW_aimOf S.1 a6).bind fun x3 => (if x3 = (-9) then fM_countRows_0_45 a3 n S a5 (a6 + 1) else (fW_become S.2.2.2.1 S.1).bind fun x5 => (fW_doNextAct x5 a6).bind fun x6 => (fM_countRows_1 (S.1, S.2.1, S.2.2.1, x6.2, S.2.2.2.2.1, S.2.2.2.2.2.1, S.2.2.2.2.2.2) a3).bind fun x7 => fM_countRows_0_45 a3 n x7.2 (a5 + x7.1) (a6 + 1)))
theorem fM_countRows_0_45_s (a3 : Int32) (n : Nat) (S : SM) (a5 : Int32) (a6 : Int32) : fM_countRows_0_45 a3 (n + 1) S a5 a6 = (fW_threadsInAll S.1).bind fun x1 => (if x1 ≤ a6 then some (a5, S) else (fW_aimOf S.1 a6).bind fun x3 => (if x3 = (-9) then fM_countRows_0_45 a3 n S a5 (a6 + 1) else (fW_become S.2.2.2.1 S.1).bind fun x5 => (fW_doNextAct x5 a6).bind fun x6 => (fM_countRows_1 (S.1, S.2.1, S.2.2.1, x6.2, S.2.2.2.2.1, S.2.2.2.2.2.1, S.2.2.2.2.2.2) a3).bind fun x7 => fM_countRows_0_45 a3 n x7.2 (a5 + x7.1) (a6 + 1))) := rfl
set_option maxHeartbeats 4000000 in
set_option maxRecDepth 100000 in
theorem lM_countRows_0_45 {p : Program} {l : Launch} {e : Env} {s : State} {m : MethodId} {args : Array Value} {below : List Frame} {meth : Method} {c : Code} (cx : mp_C p s m args meth c bM_countRows 7 (some .int) rM) (k : KK) (ad : Nat → Nat) (a3 : Int32) (z : (Int32 × SM)) (hE : mp_E k s) (hAN : ∀ q, mp_A (aM ad) q → mp_N k q) : ∀ (n : Nat) (S : SM) (a5 : Int32) (a6 : Int32), fM_countRows_0_45 a3 n S a5 a6 = some z → ∀ (H : Heap) (locs : List Loc), va_P (kD k) mp_cls (cM k ad S) H → va_D (mp_A (aM ad)) (cM k ad S) → va_S (mp_A (aM ad)) s.heap H locs → ∀ (ls : Array Slot), lv_has ls 7 [(0, .ref (ad 0)), (1, .ref (ad 1)), (2, .int 0), (3, .int a3), (4, .ref (ad 20)), (5, .int a5), (6, .int a6)] → W p l e rmM_countRows_0 s m args below meth c H locs 0 0 (MQ below (mp_Qm k (some (.int z.1)) (cM k ad z.2) (aM ad)) args s 0 0 (mp_A (aM ad))) (F0 m 45 ls []) := by
  obtain ⟨hx, hb, -, hml, hown, hts, -⟩ := id cx
  intro n
  induction n with
  | zero =>
    intro S a5 a6 h
    have h : (none : Option (Int32 × SM)) = some z := h
    cases h
  | succ n ih =>
    intro S a5 a6 h H locs hP hD hS ls hl
    rw [fM_countRows_0_45_s] at h
    refine lv_iload hx hb dM_countRows_45 (lv_at hl 6 rfl) ?_
    refine lv_aload_n hx hb dM_countRows_47 rfl (lv_at hl 1 rfl) ?_
    obtain ⟨x1, ex1, h⟩ := mp_bs h
    refine mp_si (mp_runV (As := []) (rest := [.int a6]) cx kV_M_139 (cW_threadsInAll l k (fun i => ad (i + 1)) S.1 x1 ex1) ⟨rfl, rfl, Nat.le_of_ble_eq_true rfl, Nat.le_of_ble_eq_true rfl⟩ ⟨Nat.zero_le _, Nat.zero_le _⟩ hE (pM_now (S := S) hP) (dM_now (S := S) (mp_Dw hD hAN)) (mp_S hS hAN) 0 rfl rfl rfl hl.1 rfl (Nat.le_of_ble_eq_true rfl) dM_countRows_48) ?_
    refine lv_icmp_ge (tgt := 100) hx hb dM_countRows_51 (by decide) (fun c2 => ?_) (fun c2 => ?_)
    · have h := mp_t c2 h
      refine lv_iload hx hb dM_countRows_100 (lv_at hl 5 rfl) ?_
      exact mp_rim (cf := cM k ad) cx h hP hS dM_countRows_102
    · have h := mp_f c2 h
      refine lv_aload_n hx hb dM_countRows_54 rfl (lv_at hl 1 rfl) ?_
      refine lv_iload hx hb dM_countRows_55 (lv_at hl 6 rfl) ?_
      obtain ⟨x3, ex3, h⟩ := mp_bs h
      refine mp_si (mp_runV (As := [.int a6]) (rest := []) cx kV_M_156 (cW_aimOf l k (fun i => ad (i + 1)) S.1 a6 x3 ex3) ⟨rfl, rfl, Nat.le_of_ble_eq_true rfl, Nat.le_of_ble_eq_true rfl⟩ ⟨Nat.zero_le _, Nat.zero_le _⟩ hE (pM_now (S := S) hP) (dM_now (S := S) (mp_Dw hD hAN)) (mp_S hS hAN) 0 rfl rfl rfl hl.1 rfl (Nat.le_of_ble_eq_true rfl) dM_countRows_57) ?_
      refine lv_bipush (v := (-9)) hx hb dM_countRows_60 (by decide) ?_
      refine lv_icmp_eq (tgt := 94) hx hb dM_countRows_62 (by decide) (fun c4 => ?_) (fun c4 => ?_)
      · have h := mp_t c4 h
        refine lv_iinc (v := (a6 + 1)) (lv' := [(6, .int (a6 + 1)), (0, .ref (ad 0)), (1, .ref (ad 1)), (2, .int 0), (3, .int a3), (4, .ref (ad 20)), (5, .int a5)]) hx hb dM_countRows_94 hl (k := 6) rfl rfl (by decide) rfl (fun ls hl => ?_)
        refine lv_goto (tgt := 45) hx hb dM_countRows_97 (by decide) ?_
        exact ih S a5 (a6 + 1) h _ _ hP hD hS ls (lv_sub hl [1, 2, 3, 4, 5, 6, 0] rfl)
      · have h := mp_f c4 h
        refine lv_aload hx hb dM_countRows_65 (lv_at hl 4 rfl) ?_
        refine lv_aload_n hx hb dM_countRows_67 rfl (lv_at hl 1 rfl) ?_
        obtain ⟨x5, ex5, h⟩ := mp_bs h
        refine mp_mv (mp_runV (As := [.ref (ad 1)]) (rest := []) cx kV_M_132 (cW_become l k (fun i => ad (i + 20)) (fun i => ad (i + 1)) S.1 S.2.2.2.1 x5 ex5) ⟨rfl, rfl, Nat.le_of_ble_eq_true rfl, Nat.le_of_ble_eq_true rfl⟩ ⟨Nat.zero_le _, Nat.zero_le _⟩ hE (pM_t0_now (S := S) hP) (dM_t0_now (S := S) (mp_Dw hD hAN)) (mp_S hS hAN) 0 rfl rfl rfl hl.1 rfl (Nat.le_of_ble_eq_true rfl) dM_countRows_68) hS (fun q h9 => mp_new (dM_t0_now (S := S) hD) rfl q h9) (fun H1 locs hP1 hk hS => ?_)
        have hP : va_P (kD k) mp_cls (cM k ad (S.1, S.2.1, S.2.2.1, x5, S.2.2.2.2.1, S.2.2.2.2.2.1, S.2.2.2.2.2.2)) H1 := jM_t0_now (S := S) hP hD hk hP1
        have hD : va_D (mp_A (aM ad)) (cM k ad (S.1, S.2.1, S.2.2.1, x5, S.2.2.2.2.1, S.2.2.2.2.2.1, S.2.2.2.2.2.2)) := mp_Ds hD rfl
        refine lv_aload hx hb dM_countRows_71 (lv_at hl 4 rfl) ?_
        refine lv_iload hx hb dM_countRows_73 (lv_at hl 6 rfl) ?_
        obtain ⟨x6, ex6, h⟩ := mp_bs h
        refine mp_mi (mp_runV (As := [.int a6]) (rest := []) cx kV_M_109 (cW_doNextAct l k (fun i => ad (i + 20)) x5 a6 x6 ex6) ⟨rfl, rfl, Nat.le_of_ble_eq_true rfl, Nat.le_of_ble_eq_true rfl⟩ ⟨Nat.zero_le _, Nat.zero_le _⟩ hE (pM_t0 (S := (S.1, S.2.1, S.2.2.1, x5, S.2.2.2.2.1, S.2.2.2.2.2.1, S.2.2.2.2.2.2)) hP) (dM_t0 (S := (S.1, S.2.1, S.2.2.1, x5, S.2.2.2.2.1, S.2.2.2.2.2.1, S.2.2.2.2.2.2)) (mp_Dw hD hAN)) (mp_S hS hAN) 0 rfl rfl rfl hl.1 rfl (Nat.le_of_ble_eq_true rfl) dM_countRows_75) hS (fun q h9 => mp_new (dM_t0 (S := (S.1, S.2.1, S.2.2.1, x5, S.2.2.2.2.1, S.2.2.2.2.2.1, S.2.2.2.2.2.2)) hD) rfl q h9) (fun H1 locs hP1 hk hS => ?_)
        have hP : va_P (kD k) mp_cls (cM k ad (S.1, S.2.1, S.2.2.1, x6.2, S.2.2.2.2.1, S.2.2.2.2.2.1, S.2.2.2.2.2.2)) H1 := jM_t0 (S := (S.1, S.2.1, S.2.2.1, x5, S.2.2.2.2.1, S.2.2.2.2.2.1, S.2.2.2.2.2.2)) hP hD hk hP1
        have hD : va_D (mp_A (aM ad)) (cM k ad (S.1, S.2.1, S.2.2.1, x6.2, S.2.2.2.2.1, S.2.2.2.2.2.1, S.2.2.2.2.2.2)) := mp_Ds hD rfl
        refine lv_pop hx hb dM_countRows_78 rfl ?_
        refine lv_iload hx hb dM_countRows_79 (lv_at hl 5 rfl) ?_
        refine lv_aload_n hx hb dM_countRows_81 rfl (lv_at hl 0 rfl) ?_
        refine lv_aload hx hb dM_countRows_82 (lv_at hl 4 rfl) ?_
        refine lv_iload_n hx hb dM_countRows_84 rfl (lv_at hl 2 rfl) ?_
        refine lv_iconst (v := 1) hx hb dM_countRows_85 (by decide) ?_
        refine lv_iadd hx hb dM_countRows_86 ?_
        refine mp_top (x := 1) (by decide) ?_
        refine lv_iload_n hx hb dM_countRows_87 rfl (lv_at hl 3 rfl) ?_
        obtain ⟨x7, ex7, h⟩ := mp_bs h
        refine mp_mi (mp_runV (As := [.ref (ad 20), .int 1, .int a3]) (rest := [.int a5]) cx kV_M_115 (cM_countRows_1 l k ad (S.1, S.2.1, S.2.2.1, x6.2, S.2.2.2.2.1, S.2.2.2.2.2.1, S.2.2.2.2.2.2) a3 x7 ex7) ⟨rfl, rfl, Nat.le_of_ble_eq_true rfl, Nat.le_of_ble_eq_true rfl⟩ ⟨Nat.zero_le _, Nat.zero_le _⟩ hE hP (mp_Dw hD hAN) (mp_S hS hAN) 0 rfl rfl rfl hl.1 rfl (Nat.le_of_ble_eq_true rfl) dM_countRows_88) hS (fun _ h9 => h9) (fun H locs hP hk hS => ?_)
        have hD : va_D (mp_A (aM ad)) (cM k ad x7.2) := mp_Ds hD rfl
        refine lv_iadd hx hb dM_countRows_91 ?_
        refine lv_istore (lv' := [(5, .int (a5 + x7.1)), (0, .ref (ad 0)), (1, .ref (ad 1)), (2, .int 0), (3, .int a3), (4, .ref (ad 20)), (6, .int a6)]) hx hb dM_countRows_92 hl (by decide) rfl (fun ls hl => ?_)
        refine lv_iinc (v := (a6 + 1)) (lv' := [(6, .int (a6 + 1)), (5, .int (a5 + x7.1)), (0, .ref (ad 0)), (1, .ref (ad 1)), (2, .int 0), (3, .int a3), (4, .ref (ad 20))]) hx hb dM_countRows_94 hl (k := 6) rfl rfl (by decide) rfl (fun ls hl => ?_)
        refine lv_goto (tgt := 45) hx hb dM_countRows_97 (by decide) ?_
        exact ih x7.2 (a5 + x7.1) (a6 + 1) h _ _ hP hD hS ls (lv_sub hl [2, 3, 4, 5, 6, 1, 0] rfl)
def fM_countRows_0 (S : SM) (a3 : Int32) : Option (Int32 × SM) := (if 0 < a3 then (if 1 = a3 then (fW_threadsThatCan S.1).bind fun x3 => (fJ_bitCount x3).bind fun x4 => some (x4, S) else fM_countRows_0_45 a3 2000 S 0 0) else some (1, S))
set_option maxHeartbeats 4000000 in
set_option maxRecDepth 100000 in
theorem wM_countRows_0 {p : Program} {l : Launch} {e : Env} {s : State} {m : MethodId} {args : Array Value} {below : List Frame} {meth : Method} {c : Code} (cx : mp_C p s m args meth c bM_countRows 7 (some .int) rM) (k : KK) (ad : Nat → Nat) (S : SM) (a3 : Int32) (z : (Int32 × SM)) (hE : mp_E k s) (hAN : ∀ q, mp_A (aM ad) q → mp_N k q) {H : Heap} {locs : List Loc} (hP : va_P (kD k) mp_cls (cM k ad S) H) (hD : va_D (mp_A (aM ad)) (cM k ad S)) (hS : va_S (mp_A (aM ad)) s.heap H locs) (h : fM_countRows_0 S a3 = some z) (ls : Array Slot) (hl : lv_has ls 7 [(0, .ref (ad 0)), (1, .ref (ad 1)), (2, .int 0), (3, .int a3)]) : W p l e rmM_countRows_0 s m args below meth c H locs 0 0 (MQ below (mp_Qm k (some (.int z.1)) (cM k ad z.2) (aM ad)) args s 0 0 (mp_A (aM ad))) (F0 m 0 ls []) := by
  obtain ⟨hx, hb, -, hml, hown, hts, -⟩ := id cx
  unfold fM_countRows_0 at h
  refine lv_iload_n hx hb dM_countRows_0 rfl (lv_at hl 2 rfl) ?_
  refine lv_iload_n hx hb dM_countRows_1 rfl (lv_at hl 3 rfl) ?_
  refine lv_icmp_lt (tgt := 7) hx hb dM_countRows_2 (by decide) (fun c1 => ?_) (fun c1 => ?_)
  · have h := mp_t c1 h
    refine lv_iload_n hx hb dM_countRows_7 rfl (lv_at hl 2 rfl) ?_
    refine lv_iconst (v := 1) hx hb dM_countRows_8 (by decide) ?_
    refine lv_iadd hx hb dM_countRows_9 ?_
    refine mp_top (x := 1) (by decide) ?_
    refine lv_iload_n hx hb dM_countRows_10 rfl (lv_at hl 3 rfl) ?_
    refine lv_icmp_eq (tgt := 23) hx hb dM_countRows_11 (by decide) (fun c2 => ?_) (fun c2 => ?_)
    · have h := mp_t c2 h
      refine lv_aload_n hx hb dM_countRows_23 rfl (lv_at hl 1 rfl) ?_
      obtain ⟨x3, ex3, h⟩ := mp_bs h
      refine mp_si (mp_runV (As := []) (rest := []) cx kV_M_105 (cW_threadsThatCan l k (fun i => ad (i + 1)) S.1 x3 ex3) ⟨rfl, rfl, Nat.le_of_ble_eq_true rfl, Nat.le_of_ble_eq_true rfl⟩ ⟨Nat.zero_le _, Nat.zero_le _⟩ hE (pM_now (S := S) hP) (dM_now (S := S) (mp_Dw hD hAN)) (mp_S hS hAN) 0 rfl rfl rfl hl.1 rfl (Nat.le_of_ble_eq_true rfl) dM_countRows_24) ?_
      obtain ⟨x4, ex4, h⟩ := mp_bs h
      refine mp_si (mp_runT (As := [.int x3]) (rest := []) cx kT_M_151 (cJ_bitCount l k x3 x4 ex4) ⟨rfl, rfl, Nat.le_of_ble_eq_true rfl, Nat.le_of_ble_eq_true rfl⟩ ⟨Nat.zero_le _, Nat.zero_le _⟩ hE mp_P0 mp_D0 (mp_S hS hAN) hl.1 rfl (Nat.le_of_ble_eq_true rfl) dM_countRows_27) ?_
      exact mp_rim (cf := cM k ad) cx h hP hS dM_countRows_30
    · have h := mp_f c2 h
      refine lv_iload_n hx hb dM_countRows_14 rfl (lv_at hl 2 rfl) ?_
      refine lv_aload_n hx hb dM_countRows_15 rfl (lv_at hl 0 rfl) ?_
      refine mp_gM cx hE hP iM 0 rfl 3 (by decide) wq_99 rfl (v := .ref (ad 19)) rfl dM_countRows_16 ?_
      refine va_alen hx hb hE.1 hP 19 2 (v := 3) rfl rfl rfl dM_countRows_19 ?_
      refine lv_icmp_lt (tgt := 31) hx hb dM_countRows_20 (by decide) (fun c5 => ?_) (fun c5 => ?_)
      · refine lv_aload_n hx hb dM_countRows_31 rfl (lv_at hl 0 rfl) ?_
        refine mp_gM cx hE hP iM 0 rfl 3 (by decide) wq_99 rfl (v := .ref (ad 19)) rfl dM_countRows_32 ?_
        refine lv_iload_n hx hb dM_countRows_35 rfl (lv_at hl 2 rfl) ?_
        refine mp_aald hx hb hE.1 hP 19 2 (f := mp_tr ad) (n := 3) (b := ad 20) rfl rfl (by decide) rfl dM_countRows_36 ?_
        refine lv_astore (lv' := [(4, .ref (ad 20)), (0, .ref (ad 0)), (1, .ref (ad 1)), (2, .int 0), (3, .int a3)]) hx hb dM_countRows_37 hl (by decide) rfl (fun ls hl => ?_)
        refine lv_iconst (v := 0) hx hb dM_countRows_39 (by decide) ?_
        refine lv_istore (lv' := [(5, .int 0), (4, .ref (ad 20)), (0, .ref (ad 0)), (1, .ref (ad 1)), (2, .int 0), (3, .int a3)]) hx hb dM_countRows_40 hl (by decide) rfl (fun ls hl => ?_)
        refine lv_iconst (v := 0) hx hb dM_countRows_42 (by decide) ?_
        refine lv_istore (lv' := [(6, .int 0), (5, .int 0), (4, .ref (ad 20)), (0, .ref (ad 0)), (1, .ref (ad 1)), (2, .int 0), (3, .int a3)]) hx hb dM_countRows_43 hl (by decide) rfl (fun ls hl => ?_)
        exact lM_countRows_0_45 cx k ad a3 z hE hAN _ S 0 0 h _ _ hP hD hS ls (lv_sub hl [3, 4, 5, 6, 2, 1, 0] rfl)
      · exact absurd (by decide) c5
  · have h := mp_f c1 h
    refine lv_iconst (v := 1) hx hb dM_countRows_5 (by decide) ?_
    exact mp_rim (cf := cM k ad) cx h hP hS dM_countRows_6
theorem cM_countRows_0 (l : Launch) (k : KK) (ad : Nat → Nat) (S : SM) (a3 : Int32) (z : (Int32 × SM)) (h : fM_countRows_0 S a3 = some z) : mp_CM l k yM_countRows bM_countRows 7 (some .int) rmM_countRows_0 [.ref (ad 0), .ref (ad 1), .int 0, .int a3] (cM k ad S) (cM k ad z.2) (aM ad) (some (.int z.1)) := by
  refine Met.ofW (cc := bM_countRows) (maxL := 7) (ret := (some .int)) (by decide) rfl ?_
  intro p e s m args below meth c s₁ B hml hv
  obtain ⟨rfl, hP, hD, hE⟩ := hv
  have hl := lv_entry ([.ref (ad 0), .ref (ad 1), .int 0, .int a3]) (n := 7) (Nat.le_of_ble_eq_true rfl)
  rw [lg_entry_eq]
  generalize (lg_sl ([.ref (ad 0), .ref (ad 1), .int 0, .int a3]) ++ List.replicate (7 - (lg_sl ([.ref (ad 0), .ref (ad 1), .int 0, .int a3])).length) Slot.unset).toArray = ls at hl ⊢
  exact wM_countRows_0 (mp_C.of B hml) k ad S a3 z hE (mp_new hD rfl) hP (mp_own hD rfl) va_S.rf h ls hl
-- MovingPlaces.rows
abbrev rmM_rows : Room := { frames := 9, cells := 0, slots := 0, locals := 217 }
def fM_rows (S : SM) (a1 : Int32) : Option (Int32 × SM) := (if a1 < 0 then some ((-2), S) else (if a1 ≤ 3 then (fM_countRows_0 S a1).bind fun x3 => some (x3.1, x3.2) else some ((-2), S)))
set_option maxHeartbeats 4000000 in
set_option maxRecDepth 100000 in
theorem wM_rows {p : Program} {l : Launch} {e : Env} {s : State} {m : MethodId} {args : Array Value} {below : List Frame} {meth : Method} {c : Code} (cx : mp_C p s m args meth c bM_rows 2 (some .int) rM) (k : KK) (ad : Nat → Nat) (S : SM) (a1 : Int32) (z : (Int32 × SM)) (hE : mp_E k s) (hAN : ∀ q, mp_A (aM ad) q → mp_N k q) {H : Heap} {locs : List Loc} (hP : va_P (kD k) mp_cls (cM k ad S) H) (hD : va_D (mp_A (aM ad)) (cM k ad S)) (hS : va_S (mp_A (aM ad)) s.heap H locs) (h : fM_rows S a1 = some z) (ls : Array Slot) (hl : lv_has ls 2 [(0, .ref (ad 0)), (1, .int a1)]) : W p l e rmM_rows s m args below meth c H locs 0 0 (MQ below (mp_Qm k (some (.int z.1)) (cM k ad z.2) (aM ad)) args s 0 0 (mp_A (aM ad))) (F0 m 0 ls []) := by
  obtain ⟨hx, hb, -, hml, hown, hts, -⟩ := id cx
  unfold fM_rows at h
  refine lv_iload_n hx hb dM_rows_0 rfl (lv_at hl 1 rfl) ?_
  refine lv_if_lt (tgt := 9) hx hb dM_rows_1 (by decide) (fun c1 => ?_) (fun c1 => ?_)
  · have h := mp_t c1 h
    refine lv_bipush (v := (-2)) hx hb dM_rows_9 (by decide) ?_
    exact mp_rim (cf := cM k ad) cx h hP hS dM_rows_11
  · have h := mp_f c1 h
    refine lv_iload_n hx hb dM_rows_4 rfl (lv_at hl 1 rfl) ?_
    refine lv_iconst (v := 3) hx hb dM_rows_5 (by decide) ?_
    refine lv_icmp_le (tgt := 12) hx hb dM_rows_6 (by decide) (fun c2 => ?_) (fun c2 => ?_)
    · have h := mp_t c2 h
      refine lv_aload_n hx hb dM_rows_12 rfl (lv_at hl 0 rfl) ?_
      refine lv_aload_n hx hb dM_rows_13 rfl (lv_at hl 0 rfl) ?_
      refine mp_gM cx hE hP iM 0 rfl 0 (by decide) wq_96 rfl (v := .ref (ad 1)) rfl dM_rows_14 ?_
      refine lv_iconst (v := 0) hx hb dM_rows_17 (by decide) ?_
      refine lv_iload_n hx hb dM_rows_18 rfl (lv_at hl 1 rfl) ?_
      obtain ⟨x3, ex3, h⟩ := mp_bs h
      refine mp_mi (mp_runV (As := [.ref (ad 1), .int 0, .int a1]) (rest := []) cx kV_M_115 (cM_countRows_0 l k ad S a1 x3 ex3) ⟨rfl, rfl, Nat.le_of_ble_eq_true rfl, Nat.le_of_ble_eq_true rfl⟩ ⟨Nat.zero_le _, Nat.zero_le _⟩ hE hP (mp_Dw hD hAN) (mp_S hS hAN) 0 rfl rfl rfl hl.1 rfl (Nat.le_of_ble_eq_true rfl) dM_rows_19) hS (fun _ h9 => h9) (fun H locs hP hk hS => ?_)
      have hD : va_D (mp_A (aM ad)) (cM k ad x3.2) := mp_Ds hD rfl
      exact mp_rim (cf := cM k ad) cx h hP hS dM_rows_22
    · have h := mp_f c2 h
      refine lv_bipush (v := (-2)) hx hb dM_rows_9 (by decide) ?_
      exact mp_rim (cf := cM k ad) cx h hP hS dM_rows_11
theorem cM_rows (l : Launch) (k : KK) (ad : Nat → Nat) (S : SM) (a1 : Int32) (z : (Int32 × SM)) (h : fM_rows S a1 = some z) : mp_CM l k yM_rows bM_rows 2 (some .int) rmM_rows [.ref (ad 0), .int a1] (cM k ad S) (cM k ad z.2) (aM ad) (some (.int z.1)) := by
  refine Met.ofW (cc := bM_rows) (maxL := 2) (ret := (some .int)) (by decide) rfl ?_
  intro p e s m args below meth c s₁ B hml hv
  obtain ⟨rfl, hP, hD, hE⟩ := hv
  have hl := lv_entry ([.ref (ad 0), .int a1]) (n := 2) (Nat.le_of_ble_eq_true rfl)
  rw [lg_entry_eq]
  generalize (lg_sl ([.ref (ad 0), .int a1]) ++ List.replicate (2 - (lg_sl ([.ref (ad 0), .int a1])).length) Slot.unset).toArray = ls at hl ⊢
  exact wM_rows (mp_C.of B hml) k ad S a1 z hE (mp_new hD rfl) hP (mp_own hD rfl) va_S.rf h ls hl
