theorem p_ok : pOK := by
  refine ⟨fun K M x z => x = 0 ∧ z = 50 ∧ IE K M, ?_, fun xs Ln K M x z j h h1 h2 => ?_⟩
  · obtain ⟨r, h1, h2, h3, h4⟩ := p_start
    exact ⟨r, h1, h2, h3, h4⟩
  · obtain ⟨rfl, rfl, hI⟩ := h
    obtain ⟨r, e1, e2, e3⟩ := p_step xs Ln K M j hI h1 h2
    exact ⟨r, e1, e2, rfl, rfl, e3⟩
