theorem p_ok : pOK := sorry
