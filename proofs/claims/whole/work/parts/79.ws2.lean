/-! Taking all of a list keeps what holds of the states. -/
section WSK2
variable {S : Ab} {VA : Ar → Prop}
theorem ws_takeAll (hw : WS VA S) {l : List Nat} (hm : ∀ e ∈ l, e < fn (bF S) ∧ thr (bF S) e = true) (hnd : l.Nodup) : WS VA (o_takeAll S l).2 := by
  unfold o_takeAll
  split
  · exact hw
  · have hm2 : ∀ e ∈ srt (befB (bF S)) l, e < fn (bF S) ∧ thr (bF S) e = true := fun e he => hm e ((srt_mem _ _ _).mp he)
    refine ws_F hw (takeL_ok _ hw.1 (nums_nodup hw.1 ((srt_perm (befB (bF S)) l).nodup_iff.mpr hnd) (fun e he => (hm2 e he).1)) (fun m hmm => ?_)).1
    obtain ⟨e, he, rfl⟩ := List.mem_map.mp hmm
    exact ⟨e, (hm2 e he).1, (hm2 e he).2, rfl⟩
theorem ws_sweep (hw : WS VA S) {a b c e : Int32} : WS VA (o_sweep S a b c e).2 := by
  unfold o_sweep
  split
  · refine ws_takeAll hw (fun i hi => ?_) (pik_nodup _ _)
    have := (pik_mem _ _).mp hi
    simp [pX] at this
    exact ⟨this.1, this.2.1⟩
  · exact ws_0 hw
theorem ws_mow (hw : WS VA S) : WS VA (o_mow S).2 := by
  refine ws_takeAll hw (fun i hi => ?_) (pik_nodup _ _)
  have := (pik_mem _ _).mp hi
  simp [pS] at this
  exact ⟨this.1, this.2.1⟩
end WSK2
