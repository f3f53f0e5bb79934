/-! ===== first specs ===== -/
theorem wc_ent {S : am_S} {d : Nat} {N : am_M} {as : List Value} {F : am_FT} {L : am_LT} {Q : am_QT} : wc S d N as F L Q = wt S d N 0 (am_ent N as) [] F L Q := rfl
