theorem sim_all : ∃ Rel : XS → MS → Prop, Sim Rel := ⟨Rl, rel0, fun _ _ h => ⟨c_poke h, c_peek h, c_set h, c_low h, c_high h, c_interrupt h, c_step h, c_look h⟩⟩
