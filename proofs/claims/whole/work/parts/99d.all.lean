/-- every call meets its contract -/
theorem zpc_all (G : zGt) (l : Launch) (hl : l.stackTraces = false) : ∀ n, zPc G l n := by
  intro n
  induction n using Nat.strongRecOn with
  | _ n ih =>
    intro d M r As h v hf hr hg hv
    have hex := (gb_some hg).2
    have hkp := ex_keep _ _ _ _ _ _ _ _ hex
    refine ⟨zcc hf - zcc h, zss hf - zss h, zwide_room hkp.cc, zwide_room hkp.ss, hkp.1, hkp.2.1, fun h11 => zmet_plain G l ih hr h11 hg hv, fun h11 h8 => ?_⟩
    refine zmet_w G l hl ih ?_ hr hg hv
    rcases zw_of hr h11 with q | q | q | q
    · exact Or.inl q
    · exact Or.inr (Or.inl q)
    · exact Or.inr (Or.inr q)
    · subst q
      cases Option.some.inj ((rfl : nth zall 300 = some z_300).symm.trans hr)
      exact absurd rfl h8
