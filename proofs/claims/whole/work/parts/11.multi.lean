/-! ===== BEGIN new T[n][m]: the outer array a place, the inner ones among the pooled ===== -/
/-- f, but v at every address of l -/
def vr_up {α : Type} (f : Nat → α) (l : List Nat) (v : α) : Nat → α := fun a => if a ∈ l then v else f a
theorem vr_up_in {α : Type} {f : Nat → α} {l : List Nat} {v : α} {a : Nat} (h : a ∈ l) : vr_up f l v a = v := if_pos h
theorem vr_up_ne {α : Type} {f : Nat → α} {l : List Nat} {v : α} {a : Nat} (h : a ∉ l) : vr_up f l v a = f a := if_neg h
theorem vr_rows {L l : List Nat} {f : Nat → va_E} {e : va_E} (h : ∀ a, a ∈ l → a ∉ L) : va_pl L f ++ l.map (fun a => (a, e)) = va_pl (L ++ l) (vr_up f l e) := by
  unfold va_pl
  rw [List.map_append]
  congr 1
  · apply List.map_congr_left
    intro a ha
    rw [vr_up_ne (fun q => h a q ha)]
  · apply List.map_congr_left
    intro a ha
    rw [vr_up_in ha]
theorem vr_lay {X rows : va_W} {x : Nat × va_E} {pl : va_W} {D : va_G} {cl : List vw_C} {H : Heap} (hP : va_P D cl (((X ++ pl) ++ [x]) ++ rows) H) : va_P D cl ((X ++ [x]) ++ (pl ++ rows)) H := by
  rw [List.append_assoc (X ++ pl)] at hP
  have h := va_P.swap hP
  rw [← List.append_assoc X] at h
  have h2 := va_P.swap h
  rw [List.append_assoc (X ++ [x])] at h2
  exact h2
theorem vr_layD {X rows : va_W} {x : Nat × va_E} {pl : va_W} {A : Nat → Prop} (hD : va_D A (((X ++ pl) ++ [x]) ++ rows)) : va_D A ((X ++ [x]) ++ (pl ++ rows)) := by
  rw [List.append_assoc (X ++ pl)] at hD
  have h := va_D.swap hD
  rw [← List.append_assoc X] at h
  have h2 := va_D.swap h
  rw [List.append_assoc (X ++ [x])] at h2
  exact h2
theorem vr_outer (c : ClassId) (N h0 : Nat) : ∀ i : Nat, Jvm.Free.Multi.outerC c N h0 i = arrV c N (fun j => va_rf (if j < i then some (h0 + 1 + j) else none))
  | 0 => by
    show ({ cls := c, slots := Array.replicate N .null, vm := .none } : Cell) = _
    rw [arrV_new]
    refine congrArg (arrV c N) (funext fun j => ?_)
    simp [va_rf]
  | i + 1 => by
    show (Jvm.Free.Multi.outerC c N h0 i).setSlot i (.ref (h0 + 1 + i)) = _
    rw [vr_outer c N h0 i, arrV_store]
    refine congrArg (arrV c N) (funext fun j => ?_)
    by_cases e : j = i
    · subst e
      simp [updV, va_rf]
    · by_cases h : j < i
      · simp [updV, e, h, Nat.lt_succ_of_lt h]
      · simp [updV, e, h, show ¬ j < i + 1 by omega]
section VGM
variable {p : Program} {l : Launch} {e : Env} {R : Room} {s : State} {m : MethodId} {args : Array Value} {below : List Frame} {meth : Method} {c : Code} {H : Heap} {locs : List Loc} {cells slots : Nat} {Q : State → Prop}
variable {cc : ByteArray} {pc : Nat} {ls : Array Slot} {rest : List Value} {D : va_G} {cl : List vw_C} {A : Nat → Prop} {a : Nat} {tys : List (ClassId × FieldType)} {ws : va_W} {H0 : Heap}
theorem va_mna {X : va_W} {L : List Nat} {f : Nat → va_E} {cc : ByteArray} (hexec : p.tables.exec = Jvm.exec) (hb : c.code = cc) {own : String} {index : Nat} {ty : FieldType} {cy : ClassId} (hown : s.vm.findClass own = some m.cls) (hclink : (Cond.classLink own index ("[" ++ (FieldType.array ty).toString)).before args s = true) (hover : va_AOA ty s) (harr : (Cond.arrayClass ty).before args s = true) (hcy : s.vm.findClass (FieldType.array ty).toString = some cy)
    (hK : va_K D cl tys s) (hP : va_P D cl (X ++ va_pl L f) H) (hD : va_D A (X ++ va_pl L f)) (hS : va_S A H0 H locs) (hA : ∀ q, H0.size ≤ q → A q) {n k : Int32} {N' K' : Nat} {z : vp_A} (hn : ¬ n < 0) (hk : ¬ k < 0) (hN : n.toNatClampNeg = N') (hM : k.toNatClampNeg = K')
    (hb1 : N' * 4 ≤ 536870912) (hb2 : K' * componentBytes ty ≤ 536870912) (hb3 : K' ≤ 536870912) (hdf : fits ty (defaultValue ty) = true) (hdd : (defaultValue ty).isDefault = true) (hcells : cells + (1 + N') ≤ R.cells) (hslots : slots + (N' + N' * K') ≤ R.slots) (hz : ∀ c : ClassId, Jvm.Free.Multi.innerC c K' (defaultValue ty) = vp_cell c z) (hdg : decode cc pc = .ok (.multianewarray index 2, 4))
    (kk : ∀ (q : Nat) (r : Nat → Nat) (cA : ClassId) (H1 : Heap), (∀ i j : Nat, i < N' → j < N' → r i = r j → i = j) → (∀ i : Nat, i < N' → r i ∉ L) → va_K D cl (tys ++ [(cA, .array ty)]) s →
      va_P D cl ((X ++ [(q, .inl (cA, N', .inr (.inr (.inr (.inr (fun i => if i < N' then some (r i) else none))))))]) ++ va_pl (L ++ (List.range N').map r) (vr_up f ((List.range N').map r) (.inl (cy, z)))) H1 → va_D A ((X ++ [(q, .inl (cA, N', .inr (.inr (.inr (.inr (fun i => if i < N' then some (r i) else none))))))]) ++ va_pl (L ++ (List.range N').map r) (vr_up f ((List.range N').map r) (.inl (cy, z)))) → va_S A H0 H1 locs →
      W p l e R s m args below meth c H1 locs (cells + 1 + N') (slots + N' + N' * K') Q (F0 m (pc + 4) ls (.ref q :: rest))) : W p l e R s m args below meth c H locs cells slots Q (F0 m pc ls (.int k :: .int n :: rest)) := by
  subst hN
  subst hM
  intro T hT Xs
  obtain ⟨vm₁, cA, comp, -, fA, fC, hO, -, X', step⟩ := Xs.multianewarray2F hexec hown hclink (va_AOA.use hover) harr (g := F0 m pc ls (.int k :: .int n :: rest)) rfl (by rw [hb]; exact hdg) rfl hn hk hb1 hb2 hb3 hdf hdd hcells hslots
  have ec : some cy = some comp := hcy.symm.trans fC
  cases ec
  generalize hF : Jvm.Free.Multi.fill (T.setVm vm₁) cA cy n.toNatClampNeg k.toNatClampNeg (defaultValue ty) n.toNatClampNeg = F at X' step
  have hTh : (T.setVm vm₁).heap = H := hT
  obtain ⟨f1, f2, -, -⟩ := Jvm.Free.Multi.fill_facts (T.setVm vm₁) cA cy n.toNatClampNeg k.toNatClampNeg (defaultValue ty) n.toNatClampNeg
  rw [hF, hTh] at f1 f2
  have hold : ∀ x : Nat, x < H.size → F.heap[x]? = H[x]? := fun x hx => by
    have := Jvm.Free.Multi.fill_old (T.setVm vm₁) cA cy n.toNatClampNeg k.toNatClampNeg (defaultValue ty) (a := x) (by rw [hTh]; exact hx) n.toNatClampNeg
    rw [hF, hTh] at this
    exact this
  have hrow : ∀ j : Nat, j < n.toNatClampNeg → F.heap[H.size + 1 + j]? = some (vp_cell cy z) := fun j hj => by
    have := Jvm.Free.Multi.fill_inner (T.setVm vm₁) cA cy n.toNatClampNeg k.toNatClampNeg (defaultValue ty) n.toNatClampNeg j hj
    rw [hF, hTh, hz] at this
    exact this
  have hout : Jvm.Free.Multi.outerC cA n.toNatClampNeg H.size n.toNatClampNeg = vp_cell cA (n.toNatClampNeg, .inr (.inr (.inr (.inr (fun i => if i < n.toNatClampNeg then some (H.size + 1 + i) else none))))) := by
    rw [vp_cell_q]
    exact vr_outer cA n.toNatClampNeg H.size n.toNatClampNeg
  rw [hout] at f2
  have hlt : ∀ a, a ∈ L → a < H.size := fun a ha => by
    obtain ⟨k9, hk9⟩ := va_pl_get (X := X) (f := f) ha
    exact (hP k9 _ hk9).lt
  have hnl : ∀ i : Nat, i < n.toNatClampNeg → H.size + 1 + i ∉ L := fun i _ h => by
    have := hlt _ h
    omega
  have hnm : ∀ a, a ∈ (List.range n.toNatClampNeg).map (fun i => H.size + 1 + i) → a ∉ L := fun a ha h => by
    obtain ⟨i, -, rfl⟩ := List.mem_map.mp ha
    have := hlt _ h
    omega
  have hP0 : va_P D cl (X ++ va_pl L f) F.heap := hP.kept (fun k9 x hx => hold x.1 ((hP k9 x hx).lt))
  have hP1 : va_P D cl ((X ++ va_pl L f) ++ [(H.size, .inl (cA, n.toNatClampNeg, .inr (.inr (.inr (.inr (fun i => if i < n.toNatClampNeg then some (H.size + 1 + i) else none))))))]) F.heap := hP0.app (fun k9 x hx => by
    have h0 : k9 < 1 := (List.getElem?_eq_some_iff.mp hx).1
    rw [show k9 = 0 by omega] at hx
    cases hx
    exact f2)
  have hP2 : va_P D cl (((X ++ va_pl L f) ++ [(H.size, .inl (cA, n.toNatClampNeg, .inr (.inr (.inr (.inr (fun i => if i < n.toNatClampNeg then some (H.size + 1 + i) else none))))))]) ++ ((List.range n.toNatClampNeg).map (fun i => H.size + 1 + i)).map (fun a => (a, .inl (cy, z)))) F.heap := hP1.app (fun k9 x hx => by
    obtain ⟨a, ha, rfl⟩ := List.mem_map.mp (List.mem_of_getElem? hx)
    obtain ⟨i, hi, rfl⟩ := List.mem_map.mp ha
    exact hrow i (List.mem_range.mp hi))
  have hD2 : va_D A (((X ++ va_pl L f) ++ [(H.size, .inl (cA, n.toNatClampNeg, .inr (.inr (.inr (.inr (fun i => if i < n.toNatClampNeg then some (H.size + 1 + i) else none))))))]) ++ ((List.range n.toNatClampNeg).map (fun i => H.size + 1 + i)).map (fun a => (a, .inl (cy, z)))) := by
    have hD1 := hD.push (e := .inl (cA, n.toNatClampNeg, .inr (.inr (.inr (.inr (fun i => if i < n.toNatClampNeg then some (H.size + 1 + i) else none)))))) hP rfl (hA _ hS.1)
    generalize hW1 : (X ++ va_pl L f) ++ [(H.size, .inl (cA, n.toNatClampNeg, .inr (.inr (.inr (.inr (fun i => if i < n.toNatClampNeg then some (H.size + 1 + i) else none))))))] = W1 at hD1 hP1 ⊢
    have hle : ∀ (k9 : Nat) (x : Nat × va_E), W1[k9]? = some x → x.1 ≤ H.size := fun k9 x hx => by
      rw [← hW1] at hx
      by_cases hl : k9 < (X ++ va_pl L f).length
      · rw [List.getElem?_append_left hl] at hx
        exact Nat.le_of_lt ((hP k9 x hx).lt)
      · rw [List.getElem?_append_right (by omega)] at hx
        have h0 : k9 - (X ++ va_pl L f).length < 1 := (List.getElem?_eq_some_iff.mp hx).1
        rw [show k9 - (X ++ va_pl L f).length = 0 by omega] at hx
        cases hx
        exact Nat.le_refl _
    have hr : ∀ (k9 : Nat) (x : Nat × va_E), (((List.range n.toNatClampNeg).map (fun i => H.size + 1 + i)).map (fun a => ((a, .inl (cy, z)) : Nat × va_E)))[k9]? = some x → x.1 = H.size + 1 + k9 := fun k9 x hx => by
      rw [List.getElem?_map, List.getElem?_map] at hx
      by_cases h9 : k9 < n.toNatClampNeg
      · rw [List.getElem?_range h9] at hx
        cases hx
        rfl
      · have hn0 : (List.range n.toNatClampNeg)[k9]? = none := List.getElem?_eq_none (by rw [List.length_range]; omega)
        rw [hn0] at hx
        cases hx
    refine ⟨fun i j x y hi hj hxy => ?_, fun k9 x hx => ?_⟩
    · by_cases h1 : i < W1.length <;> by_cases h2 : j < W1.length
      · rw [List.getElem?_append_left h1] at hi
        rw [List.getElem?_append_left h2] at hj
        exact hD1.1 i j x y hi hj hxy
      · rw [List.getElem?_append_left h1] at hi
        rw [List.getElem?_append_right (by omega)] at hj
        have := hle _ _ hi
        have := hr _ _ hj
        omega
      · rw [List.getElem?_append_right (by omega)] at hi
        rw [List.getElem?_append_left h2] at hj
        have := hle _ _ hj
        have := hr _ _ hi
        omega
      · rw [List.getElem?_append_right (by omega)] at hi hj
        have := hr _ _ hi
        have := hr _ _ hj
        omega
    · by_cases h1 : k9 < W1.length
      · rw [List.getElem?_append_left h1] at hx
        exact hD1.2 k9 x hx
      · rw [List.getElem?_append_right (by omega)] at hx
        have := hr _ _ hx
        exact hA _ (by have := hS.1; omega)
  have hAr : ArrOfT s cA (.array ty) := fun N9 z9 => by
    obtain ⟨-, k9, hk9, cm9, hkk9⟩ := (hO 0 0 0).1
    exact ⟨(fun q hq => by cases hq), k9, hk9, cm9, hkk9⟩
  have hK2 : va_K D cl (tys ++ [(cA, .array ty)]) s := ⟨hK.1, fun k9 x hx => by
    by_cases hl : k9 < tys.length
    · rw [List.getElem?_append_left hl] at hx
      exact hK.2 k9 x hx
    · rw [List.getElem?_append_right (by omega)] at hx
      have h0 : k9 - tys.length < 1 := (List.getElem?_eq_some_iff.mp hx).1
      rw [show k9 - tys.length = 0 by omega] at hx
      cases hx
      exact ⟨hAr, fA⟩⟩
  obtain ⟨t, a1, b1⟩ := kk H.size (fun i => H.size + 1 + i) cA F.heap (fun i j _ _ h => by have h9 : H.size + 1 + i = H.size + 1 + j := h; omega) hnl hK2 (by rw [← vr_rows hnm]; exact vr_lay hP2) (by rw [← vr_rows hnm]; exact vr_layD hD2) ⟨by rw [f1]; have := hS.1; omega, fun x h1 h2 => (hold x (Nat.lt_of_lt_of_le h1 hS.1)).trans (hS.2.1 x h1 h2), hS.2.2⟩ F rfl X'
  refine ⟨t, step t ?_, b1⟩
  have e : T.heap.size = H.size := by rw [hT]
  rw [e]
  exact a1
end VGM
/-! ===== END ===== -/
/-! ===== new int[N][K] ===== -/
def q_almn (n : Nat) (M : q_Mem) (N : Nat) : q_Mem := (n + 1 + N, fun b => if b = n then (fun j => if j < N then ((n + 1 + j : Nat) : Int) else -1) else if n < b then (fun _ => 0) else M.2 b)
def q_alm (M : q_Mem) (N : Nat) : q_Mem := (M.1 + 1 + N, fun b => if b = M.1 then (fun j => if j < N then ((M.1 + 1 + j : Nat) : Int) else -1) else if M.1 < b then (fun _ => 0) else M.2 b)
theorem q_sz_rows {n K : Nat} : ∀ N : Nat, (∀ j, j < N → q_shp (n + 1 + j) = (1, K)) → q_sz (n + 1 + N) = q_sz (n + 1) + N * K
  | 0, _ => by simp
  | N + 1, h => by
    have ih := q_sz_rows N (fun j hj => h j (by omega))
    have e : q_sz (n + 1 + (N + 1)) = q_sz (n + 1 + N) + q_size (q_shp (n + 1 + N)) := rfl
    rw [e, ih, h N (by omega)]
    show q_sz (n + 1) + N * K + K = q_sz (n + 1) + (N + 1) * K
    rw [Nat.succ_mul]; omega
theorem q_RV_alm {M : q_Mem} {N K : Nat} (h : q_RV M) (hsh : q_shp M.1 = (5, N)) (hrow : ∀ j, j < N → q_shp (M.1 + 1 + j) = (1, K)) : q_RV (q_alm M N) := by
  intro i hi
  have hi : i < M.1 + 1 + N := hi
  have lo : ∀ b, b < M.1 → (q_alm M N).2 b = M.2 b := fun b hb => by
    show (if b = M.1 then _ else if M.1 < b then _ else M.2 b) = M.2 b
    rw [if_neg (by omega), if_neg (by omega)]
  have cnt : ((q_alm M N).1 : Int) = (M.1 : Int) + 1 + N := by show ((M.1 + 1 + N : Nat) : Int) = _; omega
  rcases (show i < M.1 ∨ i = M.1 ∨ M.1 < i by omega) with g | g | g
  · rw [lo i g, cnt]
    exact ⟨fun c2 h2 j hj => by have := (h i g).1 c2 h2 j hj; omega, fun n h2 j => by have := (h i g).2 n h2 j; omega⟩
  · subst g
    refine ⟨fun c2 h2 j hj => (by rw [hsh] at h2; cases h2), fun n h2 j => ?_⟩
    rw [cnt]
    show (if M.1 = M.1 then (fun j => if j < N then ((M.1 + 1 + j : Nat) : Int) else -1) else _) j < _
    rw [if_pos rfl]
    show (if j < N then ((M.1 + 1 + j : Nat) : Int) else -1) < _
    split <;> omega
  · have hs := hrow (i - M.1 - 1) (by omega)
    rw [show M.1 + 1 + (i - M.1 - 1) = i by omega] at hs
    exact ⟨fun c2 h2 j hj => (by rw [hs] at h2; cases h2), fun n h2 j => (by rw [hs] at h2; cases h2)⟩
theorem q_ws_alm {A : Nat → Nat} {cA : Nat → ClassId} {M : q_Mem} {q N K : Nat} {r : Nat → Nat} {fe : Nat → va_E} (hV : q_RV M) (hn : M.1 + N < 166) (hsh : q_shp M.1 = (5, N)) (hrow : ∀ j, j < N → q_shp (M.1 + 1 + j) = (1, K)) (A' : Nat → Nat) (hA : ∀ i, i < M.1 → A' i = A i) (hq : A' M.1 = q) (hr : ∀ j, j < N → A' (M.1 + 1 + j) = r j) :
    q_ws A' cA (q_alm M N) = (q_ws A cA M ++ [(q, .inl (cA 4, N, .inr (.inr (.inr (.inr (fun i => if i < N then some (r i) else none))))))]) ++ va_pl ([] ++ (List.range N).map r) (vr_up fe ((List.range N).map r) (.inl (cA 0, K, .inl (fun _ => Int32.ofInt 0)))) := by
  have h1 : q_ws A' cA M = q_ws A cA M := q_ws_ag hV (by omega) hA
  rw [← h1]
  unfold q_ws va_pl
  show (List.range (M.1 + 1 + N)).map _ = _
  rw [List.range_add, List.map_append, List.range_succ, List.map_append, List.nil_append, List.map_map, List.map_map]
  congr 1
  · congr 1
    · apply List.map_congr_left
      intro i hi
      have hi := List.mem_range.mp hi
      show (A' i, q_cellE A' cA (q_shp i) (if i = M.1 then _ else if M.1 < i then _ else M.2 i)) = _
      rw [if_neg (by omega), if_neg (by omega)]
    · show [(A' M.1, q_cellE A' cA (q_shp M.1) (if M.1 = M.1 then _ else _))] = _
      rw [if_pos rfl, hq, hsh]
      show [(q, Sum.inl (cA 4, N, Sum.inr (Sum.inr (Sum.inr (Sum.inr _)))))] = _
      congr 9
      funext j
      show (if (if j < N then ((M.1 + 1 + j : Nat) : Int) else -1) < 0 then none else some (A' (if j < N then ((M.1 + 1 + j : Nat) : Int) else -1).toNat)) = _
      by_cases hj : j < N
      · rw [if_pos hj, if_pos hj, if_neg (by omega), Int.toNat_natCast, hr j hj]
      · rw [if_neg hj, if_neg hj, if_pos (by omega)]
  · apply List.map_congr_left
    intro j hj
    have hj := List.mem_range.mp hj
    show (A' (M.1 + 1 + j), q_cellE A' cA (q_shp (M.1 + 1 + j)) (if M.1 + 1 + j = M.1 then _ else if M.1 < M.1 + 1 + j then _ else _)) = (r j, vr_up fe ((List.range N).map r) (.inl (cA 0, K, .inl (fun _ => Int32.ofInt 0))) (r j))
    rw [if_neg (by omega), if_pos (by omega), hr j hj, hrow j hj, vr_up_in (List.mem_map.mpr ⟨j, List.mem_range.mpr hj, rfl⟩)]
    rfl
section QN
variable {XP : State → (Nat → Nat) → (Nat → Prop) → Prop} {d : Nat} {y : MethodName} {cc : ByteArray} {nL : Nat} {ret : Option FieldType} {pc : Nat} {ls : List (Nat × q_V)} {st : List q_V} {M : q_Mem} {f : q_Mem → Option (Int × q_Mem)} {n idx : Nat}
theorem q_mna {z1 z2 : Int} {N K : Nat} (hX : q_XM XP) (hV : q_RV M) (hM : M.1 = n) (hn : n + N < 166) (hsh : q_shp n = (5, N)) (hrow : ∀ j, j < N → q_shp (n + 1 + j) = (1, K)) (hls : q_rok n (ls.map (fun q => q.2)) = true) (hst : q_rok n st = true) (hz1 : ¬ Int32.ofInt z1 < 0) (hz2 : (Int32.ofInt z1).toNatClampNeg = N) (hz3 : ¬ Int32.ofInt z2 < 0) (hz4 : (Int32.ofInt z2).toNatClampNeg = K) (hb1 : N * 4 ≤ 536870912) (hb2 : K * componentBytes .int ≤ 536870912) (hb3 : K ≤ 536870912) (hw1 : Cond.classLink y.cls idx "[[I" ∈ q_gT) (hw2 : Cond.arrayClass .int ∈ q_gT) (hdg : decode cc pc = .ok (.multianewarray idx 2, 4))
    (kk : ∀ M1, M1 = q_almn n M N → M1.1 = n + 1 + N → q_RV M1 → q_EXg XP d y cc nL ret (pc + 4) ls (.inr (.inr n) :: st) M1 (f M1)) : q_EXg XP d y cc nL ret pc ls (.inl z2 :: .inl z1 :: st) M (q_let (q_almn n M N) f) := by
  subst hM
  show q_EXg XP d y cc nL ret pc ls (.inl z2 :: .inl z1 :: st) M (q_let (q_alm M N) f)
  have hRV1 := q_RV_alm hV hsh hrow
  intro x M' ho
  have k0 := kk _ rfl rfl hRV1 x M' ho
  have hle : M.1 + 1 + N ≤ M'.1 := k0.2.2.1
  refine ⟨?_, fun h => absurd h.1 (by omega), by omega, fun h6 _ => k0.2.2.2 h6 hRV1⟩
  intro p l e R s m args below meth c D cA A0 A H locs cells slots mc ms lsA Q hB hXP hP hD hS hl hR hn9 hE
  obtain ⟨hx, hb, -, -, -, hown, -, hts, hA, hEnv⟩ := id hB
  have s1 : q_sz (M.1 + 1 + N) = q_sz (M.1 + 1) + N * K := q_sz_rows N hrow
  have s2 : q_sz (M.1 + 1) = q_sz M.1 + N := by
    show q_sz M.1 + q_size (q_shp M.1) = _
    rw [hsh]; rfl
  have hmono : q_sz (M.1 + 1 + N) ≤ q_sz M'.1 := q_sz_mono hle
  have e0 : "[" ++ (FieldType.array .int).toString = "[[I" := by decide +kernel
  refine va_mna (D := D) (cl := q_cls) (X := q_ws A cA M) (L := []) (f := fun _ => .inr (0, [])) (ty := .int) (cy := cA 0) (z := (K, .inl (fun _ => Int32.ofInt 0))) hx hb hown (by rw [e0]; exact hts _ hw1) hEnv.2.2.2.2.2.2 (hts _ hw2) (hEnv.1.2 0 (cA 0, .int) rfl).2 hEnv.1 (by simpa [va_pl] using hP) (by simpa [va_pl] using hD) hS hA hz1 hz3 hz2 hz4 hb1 hb2 hb3 rfl rfl (by omega) (by omega) (fun c0 => ?_) hdg (fun q r c0 H1 hinj hnot hK1 hP1 hD1 hS1 => ?_)
  · show ({ cls := c0, slots := Array.replicate K (defaultValue .int), vm := .none } : Cell) = _
    rw [arrV_new, vp_cell_i]; rfl
  have e1 : s.vm.findClass ("[" ++ (FieldType.array .int).toString) = some c0 := (hK1.2 5 (c0, .array .int) rfl).2
  have e2 : s.vm.findClass ("[" ++ (FieldType.array .int).toString) = some (cA 4) := (hEnv.1.2 4 (cA 4, .array .int) rfl).2
  have e3 : c0 = cA 4 := Option.some.inj (e1.symm.trans e2)
  subst e3
  obtain ⟨A2, hA2⟩ : ∃ A2 : Nat → Nat, A2 = fun b => if b = M.1 then q else if M.1 < b ∧ b < M.1 + 1 + N then r (b - M.1 - 1) else A b := ⟨_, rfl⟩
  have aA : ∀ i, i < M.1 → A2 i = A i := fun i hi => by rw [hA2]; show (if i = M.1 then q else if M.1 < i ∧ i < M.1 + 1 + N then r (i - M.1 - 1) else A i) = A i; rw [if_neg (by omega), if_neg (by omega)]
  have aB : ∀ i, 166 ≤ i → A2 i = A i := fun i hi => by rw [hA2]; show (if i = M.1 then q else if M.1 < i ∧ i < M.1 + 1 + N then r (i - M.1 - 1) else A i) = A i; rw [if_neg (by omega), if_neg (by omega)]
  have aq : A2 M.1 = q := by rw [hA2]; exact if_pos rfl
  have ar : ∀ j, j < N → A2 (M.1 + 1 + j) = r j := fun j hj => by
    rw [hA2]
    show (if M.1 + 1 + j = M.1 then q else if M.1 < M.1 + 1 + j ∧ M.1 + 1 + j < M.1 + 1 + N then r (M.1 + 1 + j - M.1 - 1) else A (M.1 + 1 + j)) = r j
    rw [if_neg (by omega), if_pos (by omega), show M.1 + 1 + j - M.1 - 1 = j by omega]
  have a0 := aB 1000 (by omega)
  have a1 := aB 1001 (by omega)
  have a2 := aB 1002 (by omega)
  rw [← q_ws_alm hV hn hsh hrow A2 aA aq ar] at hP1 hD1
  have hk := k0.1 p l e R s m args below meth c D cA A0 A2 H1 locs (cells + 1 + N) (slots + N + N * K) mc ms lsA Q (q_Base_ag hB a0 a1) (hX s A _ A0 a2 hXP) hP1 hD1 hS1 (by rw [q_cl_ag aA a0 a1 a2 hls]; exact hl) hR ⟨hle, by show cells + 1 + N + (M'.1 - (M.1 + 1 + N)) ≤ mc; omega, by show slots + N + N * K + (q_sz M'.1 - q_sz (M.1 + 1 + N)) ≤ ms; omega⟩ (fun A' H' locs' lsA' pc' hAg hP' hD' hS' hr' => hE A' H' locs' lsA' pc' ⟨fun i hi => by rw [hAg.1 i (by show i < M.1 + 1 + N; omega)]; exact aA i hi, fun h => absurd h (by omega), by rw [hAg.2.2.1]; exact a0, by rw [hAg.2.2.2.1]; exact a1, by rw [hAg.2.2.2.2]; exact a2⟩ hP' hD' hS' hr')
  have hs : (List.map (q_c A2) (Sum.inr (Sum.inr M.1) :: st)) = .ref q :: st.map (q_c A) := by
    rw [List.map_cons, q_map_ag aA a0 a1 a2 hst]
    show Value.ref (A2 M.1) :: _ = _
    rw [aq]
  rw [hs] at hk
  exact hk
end QN
