theorem pure_all : ∃ Inv : Mem → Prop, AllSteps Inv ∧ Inv mem0 :=
  ⟨Inv, ⟨s_feed, s_end, s_town, s_fault, s_person, s_owed, s_sum, s_wet, s_pays, s_aim, s_stand, s_hours, s_offset, s_clear, s_undo, s_redo, s_will, s_when, s_throng, s_meeting, s_help, s_plan, s_rings, s_ring, s_hide, s_word, s_lies, s_step, s_untell, s_later, s_fit, s_sham, s_ask, s_image, s_back, s_about⟩, inv_mem0⟩
