set_option maxRecDepth 1000000 in
theorem i_z2 (k : Nat) : q_Mi.2 2 k = 0 := rfl
set_option maxRecDepth 1000000 in
theorem i_z95 (k : Nat) : q_Mi.2 95 k = 0 := rfl
set_option maxRecDepth 1000000 in
theorem i_z56 (k : Nat) : q_Mi.2 56 k = q_Mi.2 96 k := rfl
theorem i_lt {a : Int} (h : a ≤ 0) {k : Nat} (hk : (k : Int) < a) : False := by omega
theorem i_cl : ∀ m : Nat, m < 401 → q_Mi.2 89 m = if s_cloud q_Mi.2 m then 1 else 0 := by decide +kernel
theorem i_ws : r_words q_Mi.2 := by
  unfold r_words
  decide +kernel
theorem i_fair : r_fair 57 q_Mi.2 q_Mi.2 := by
  refine ⟨Or.inl ⟨rfl, by decide +kernel⟩, by decide +kernel, by decide +kernel, by decide +kernel, by decide +kernel, by decide +kernel, by decide +kernel, by decide +kernel, by decide +kernel, ?_, ?_, ?_, Or.inl (by decide +kernel), Or.inl (by decide +kernel)⟩
  · intro s h
    exact (i_lt (by decide +kernel) h).elim
  · intro s h
    exact (i_lt (by decide +kernel) h).elim
  · intro s h
    exact (i_lt (by decide +kernel) h).elim
theorem i_wf : r_wf q_Mi.2 := by
  refine ⟨Or.inl (by decide +kernel), by decide +kernel, by decide +kernel, by decide +kernel, by decide +kernel, ?_, ?_, ?_, by decide +kernel, by decide +kernel⟩
  · intro s h
    exact (i_lt (by decide +kernel) h).elim
  · intro s h
    exact (i_lt (by decide +kernel) h).elim
  · intro s h
    exact (i_lt (by decide +kernel) h).elim
theorem i_dv : r_dv q_Mi.2 (q_Mi.2 131) := by
  refine ⟨by decide +kernel, by decide +kernel, by decide +kernel, by decide +kernel, ?_, by decide +kernel⟩
  intro s h
  exact (i_lt (by decide +kernel) h).elim
theorem i_J : q_J 57 q_Mi q_Mi.2 q_Mi.2 := by
  refine ⟨fun _ _ _ => rfl, fun _ _ _ => rfl, i_fair, i_wf, ⟨by decide +kernel, by decide +kernel, by decide +kernel, by decide +kernel, ?_, fun m hm => i_cl m (by omega)⟩, ?_, i_dv⟩
  · intro s h
    exact (i_lt (by decide +kernel) h).elim
  · intro c s m h
    exact (i_lt (by decide +kernel) h).elim
theorem i_start : q_St q_Mi := by
  refine ⟨57, q_Mi.2, q_Mi.2, i_J, ⟨⟨by decide +kernel, fun k => by rw [i_z2, i_z95], by decide +kernel, fun k => by rw [i_z95]; decide⟩, i_z56, by decide +kernel, ⟨by decide +kernel, by decide +kernel, ?_⟩, by decide +kernel, ⟨by decide +kernel, by decide +kernel, ?_⟩, by decide +kernel, ?_⟩, i_ws⟩
  · intro s h
    exact (i_lt (by decide +kernel) h).elim
  · intro s h
    exact (i_lt (by decide +kernel) h).elim
  · refine ⟨by decide +kernel, by decide +kernel, by decide +kernel, by decide +kernel, ?_, ?_⟩
    · intro j hj
      have h0 : q_Mi.2 94 65 = 0 := by decide +kernel
      have : j = 0 := by omega
      subst this
      refine ⟨i_dv, ?_, ?_⟩
      · intro s h
        exact (i_lt (by decide +kernel) h).elim
      · intro s h
        exact (i_lt (by decide +kernel) h).elim
    · intro s h
      exact (i_lt (by decide +kernel) h).elim
