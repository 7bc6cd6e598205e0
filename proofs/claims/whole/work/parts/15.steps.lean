/-! THE PURE TARGET: each call of the class and of the reference, one behind the other, gives one answer and keeps Inv -/
def StpI (Inv : Mem → Prop) (f g : Mem → Option (Int32 × Mem)) : Prop := ∀ σ, Inv σ → ∃ (r : Int32) (σ1 σ2 : Mem), f σ = some (r, σ1) ∧ g σ1 = some (r, σ2) ∧ Inv σ2
def AllSteps (Inv : Mem → Prop) : Prop :=
  (∀ a0 a1 a2 a3 a4 : Int32, StpI Inv (X11_feed a0 a1 a2 a3 a4) (X12_feed a0 a1 a2 a3 a4)) ∧
  (∀ a0 : Int32, StpI Inv (X11_end a0) (X12_end a0)) ∧
  (StpI Inv (X11_town) (X12_town)) ∧
  (∀ a0 : Int32, StpI Inv (X11_fault a0) (X12_fault a0)) ∧
  (∀ a0 a1 : Int32, StpI Inv (X11_person a0 a1) (X12_person a0 a1)) ∧
  (∀ a0 a1 : Int32, StpI Inv (X11_owed a0 a1) (X12_owed a0 a1)) ∧
  (∀ a0 a1 : Int32, (a1 = 0 ∨ a1 = 1) → StpI Inv (X11_sum a0 a1) (X12_sum a0 a1)) ∧
  (∀ a0 a1 : Int32, StpI Inv (X11_wet a0 a1) (X12_wet a0 a1)) ∧
  (∀ a0 : Int32, StpI Inv (X11_pays a0) (X12_pays a0)) ∧
  (∀ a0 a1 : Int32, StpI Inv (X11_aim a0 a1) (X12_aim a0 a1)) ∧
  (∀ a0 a1 : Int32, StpI Inv (X11_stand a0 a1) (X12_stand a0 a1)) ∧
  (∀ a0 : Int32, StpI Inv (X11_hours a0) (X12_hours a0)) ∧
  (∀ a0 a1 : Int32, StpI Inv (X11_offset a0 a1) (X12_offset a0 a1)) ∧
  (StpI Inv (X11_clear) (X12_clear)) ∧
  (StpI Inv (X11_undo) (X12_undo)) ∧
  (StpI Inv (X11_redo) (X12_redo)) ∧
  (∀ a0 a1 a2 : Int32, StpI Inv (X11_will a0 a1 a2) (X12_will a0 a1 a2)) ∧
  (∀ a0 a1 : Int32, StpI Inv (X11_when a0 a1) (X12_when a0 a1)) ∧
  (∀ a0 a1 a2 : Int32, StpI Inv (X11_throng a0 a1 a2) (X12_throng a0 a1 a2)) ∧
  (∀ a0 a1 a2 : Int32, StpI Inv (X11_meeting a0 a1 a2) (X12_meeting a0 a1 a2)) ∧
  (∀ a0 a1 a2 : Int32, StpI Inv (X11_help a0 a1 a2) (X12_help a0 a1 a2)) ∧
  (∀ a0 : Int32, StpI Inv (X11_plan a0) (X12_plan a0)) ∧
  (StpI Inv (X11_rings) (X12_rings)) ∧
  (StpI Inv (X11_ring) (X12_ring)) ∧
  (∀ a0 a1 a2 : Int32, StpI Inv (X11_hide a0 a1 a2) (X12_hide a0 a1 a2)) ∧
  (∀ a0 a1 a2 : Int32, StpI Inv (X11_word a0 a1 a2) (X12_word a0 a1 a2)) ∧
  (∀ a0 : Int32, StpI Inv (X11_lies a0) (X12_lies a0)) ∧
  (∀ a0 a1 a2 : Int32, StpI Inv (X11_step a0 a1 a2) (X12_step a0 a1 a2)) ∧
  (∀ a0 : Int32, StpI Inv (X11_untell a0) (X12_untell a0)) ∧
  (∀ a0 : Int32, StpI Inv (X11_later a0) (X12_later a0)) ∧
  (∀ a0 a1 : Int32, StpI Inv (X11_fit a0 a1) (X12_fit a0 a1)) ∧
  (∀ a0 : Int32, StpI Inv (X11_sham a0) (X12_sham a0)) ∧
  (∀ a0 a1 a2 : Int32, StpI Inv (X11_ask a0 a1 a2) (X12_ask a0 a1 a2)) ∧
  (∀ a0 : Int32, StpI Inv (X11_image a0) (X12_image a0)) ∧
  (∀ a0 : Int32, StpI Inv (X11_back a0) (X12_back a0)) ∧
  (∀ a0 : Int32, StpI Inv (X11_about a0) (X12_about a0))
theorem st_0 {Inv : Mem → Prop} (h : AllSteps Inv) : ∀ a0 a1 a2 a3 a4 : Int32, StpI Inv (X11_feed a0 a1 a2 a3 a4) (X12_feed a0 a1 a2 a3 a4) := h.1
theorem st_1 {Inv : Mem → Prop} (h : AllSteps Inv) : ∀ a0 : Int32, StpI Inv (X11_end a0) (X12_end a0) := h.2.1
theorem st_2 {Inv : Mem → Prop} (h : AllSteps Inv) : StpI Inv (X11_town) (X12_town) := h.2.2.1
theorem st_3 {Inv : Mem → Prop} (h : AllSteps Inv) : ∀ a0 : Int32, StpI Inv (X11_fault a0) (X12_fault a0) := h.2.2.2.1
theorem st_4 {Inv : Mem → Prop} (h : AllSteps Inv) : ∀ a0 a1 : Int32, StpI Inv (X11_person a0 a1) (X12_person a0 a1) := h.2.2.2.2.1
theorem st_5 {Inv : Mem → Prop} (h : AllSteps Inv) : ∀ a0 a1 : Int32, StpI Inv (X11_owed a0 a1) (X12_owed a0 a1) := h.2.2.2.2.2.1
theorem st_6 {Inv : Mem → Prop} (h : AllSteps Inv) : ∀ a0 a1 : Int32, (a1 = 0 ∨ a1 = 1) → StpI Inv (X11_sum a0 a1) (X12_sum a0 a1) := h.2.2.2.2.2.2.1
theorem st_7 {Inv : Mem → Prop} (h : AllSteps Inv) : ∀ a0 a1 : Int32, StpI Inv (X11_wet a0 a1) (X12_wet a0 a1) := h.2.2.2.2.2.2.2.1
theorem st_8 {Inv : Mem → Prop} (h : AllSteps Inv) : ∀ a0 : Int32, StpI Inv (X11_pays a0) (X12_pays a0) := h.2.2.2.2.2.2.2.2.1
theorem st_9 {Inv : Mem → Prop} (h : AllSteps Inv) : ∀ a0 a1 : Int32, StpI Inv (X11_aim a0 a1) (X12_aim a0 a1) := h.2.2.2.2.2.2.2.2.2.1
theorem st_10 {Inv : Mem → Prop} (h : AllSteps Inv) : ∀ a0 a1 : Int32, StpI Inv (X11_stand a0 a1) (X12_stand a0 a1) := h.2.2.2.2.2.2.2.2.2.2.1
theorem st_11 {Inv : Mem → Prop} (h : AllSteps Inv) : ∀ a0 : Int32, StpI Inv (X11_hours a0) (X12_hours a0) := h.2.2.2.2.2.2.2.2.2.2.2.1
theorem st_12 {Inv : Mem → Prop} (h : AllSteps Inv) : ∀ a0 a1 : Int32, StpI Inv (X11_offset a0 a1) (X12_offset a0 a1) := h.2.2.2.2.2.2.2.2.2.2.2.2.1
theorem st_13 {Inv : Mem → Prop} (h : AllSteps Inv) : StpI Inv (X11_clear) (X12_clear) := h.2.2.2.2.2.2.2.2.2.2.2.2.2.1
theorem st_14 {Inv : Mem → Prop} (h : AllSteps Inv) : StpI Inv (X11_undo) (X12_undo) := h.2.2.2.2.2.2.2.2.2.2.2.2.2.2.1
theorem st_15 {Inv : Mem → Prop} (h : AllSteps Inv) : StpI Inv (X11_redo) (X12_redo) := h.2.2.2.2.2.2.2.2.2.2.2.2.2.2.2.1
theorem st_16 {Inv : Mem → Prop} (h : AllSteps Inv) : ∀ a0 a1 a2 : Int32, StpI Inv (X11_will a0 a1 a2) (X12_will a0 a1 a2) := h.2.2.2.2.2.2.2.2.2.2.2.2.2.2.2.2.1
theorem st_17 {Inv : Mem → Prop} (h : AllSteps Inv) : ∀ a0 a1 : Int32, StpI Inv (X11_when a0 a1) (X12_when a0 a1) := h.2.2.2.2.2.2.2.2.2.2.2.2.2.2.2.2.2.1
theorem st_18 {Inv : Mem → Prop} (h : AllSteps Inv) : ∀ a0 a1 a2 : Int32, StpI Inv (X11_throng a0 a1 a2) (X12_throng a0 a1 a2) := h.2.2.2.2.2.2.2.2.2.2.2.2.2.2.2.2.2.2.1
theorem st_19 {Inv : Mem → Prop} (h : AllSteps Inv) : ∀ a0 a1 a2 : Int32, StpI Inv (X11_meeting a0 a1 a2) (X12_meeting a0 a1 a2) := h.2.2.2.2.2.2.2.2.2.2.2.2.2.2.2.2.2.2.2.1
theorem st_20 {Inv : Mem → Prop} (h : AllSteps Inv) : ∀ a0 a1 a2 : Int32, StpI Inv (X11_help a0 a1 a2) (X12_help a0 a1 a2) := h.2.2.2.2.2.2.2.2.2.2.2.2.2.2.2.2.2.2.2.2.1
theorem st_21 {Inv : Mem → Prop} (h : AllSteps Inv) : ∀ a0 : Int32, StpI Inv (X11_plan a0) (X12_plan a0) := h.2.2.2.2.2.2.2.2.2.2.2.2.2.2.2.2.2.2.2.2.2.1
theorem st_22 {Inv : Mem → Prop} (h : AllSteps Inv) : StpI Inv (X11_rings) (X12_rings) := h.2.2.2.2.2.2.2.2.2.2.2.2.2.2.2.2.2.2.2.2.2.2.1
theorem st_23 {Inv : Mem → Prop} (h : AllSteps Inv) : StpI Inv (X11_ring) (X12_ring) := h.2.2.2.2.2.2.2.2.2.2.2.2.2.2.2.2.2.2.2.2.2.2.2.1
theorem st_24 {Inv : Mem → Prop} (h : AllSteps Inv) : ∀ a0 a1 a2 : Int32, StpI Inv (X11_hide a0 a1 a2) (X12_hide a0 a1 a2) := h.2.2.2.2.2.2.2.2.2.2.2.2.2.2.2.2.2.2.2.2.2.2.2.2.1
theorem st_25 {Inv : Mem → Prop} (h : AllSteps Inv) : ∀ a0 a1 a2 : Int32, StpI Inv (X11_word a0 a1 a2) (X12_word a0 a1 a2) := h.2.2.2.2.2.2.2.2.2.2.2.2.2.2.2.2.2.2.2.2.2.2.2.2.2.1
theorem st_26 {Inv : Mem → Prop} (h : AllSteps Inv) : ∀ a0 : Int32, StpI Inv (X11_lies a0) (X12_lies a0) := h.2.2.2.2.2.2.2.2.2.2.2.2.2.2.2.2.2.2.2.2.2.2.2.2.2.2.1
theorem st_27 {Inv : Mem → Prop} (h : AllSteps Inv) : ∀ a0 a1 a2 : Int32, StpI Inv (X11_step a0 a1 a2) (X12_step a0 a1 a2) := h.2.2.2.2.2.2.2.2.2.2.2.2.2.2.2.2.2.2.2.2.2.2.2.2.2.2.2.1
theorem st_28 {Inv : Mem → Prop} (h : AllSteps Inv) : ∀ a0 : Int32, StpI Inv (X11_untell a0) (X12_untell a0) := h.2.2.2.2.2.2.2.2.2.2.2.2.2.2.2.2.2.2.2.2.2.2.2.2.2.2.2.2.1
theorem st_29 {Inv : Mem → Prop} (h : AllSteps Inv) : ∀ a0 : Int32, StpI Inv (X11_later a0) (X12_later a0) := h.2.2.2.2.2.2.2.2.2.2.2.2.2.2.2.2.2.2.2.2.2.2.2.2.2.2.2.2.2.1
theorem st_30 {Inv : Mem → Prop} (h : AllSteps Inv) : ∀ a0 a1 : Int32, StpI Inv (X11_fit a0 a1) (X12_fit a0 a1) := h.2.2.2.2.2.2.2.2.2.2.2.2.2.2.2.2.2.2.2.2.2.2.2.2.2.2.2.2.2.2.1
theorem st_31 {Inv : Mem → Prop} (h : AllSteps Inv) : ∀ a0 : Int32, StpI Inv (X11_sham a0) (X12_sham a0) := h.2.2.2.2.2.2.2.2.2.2.2.2.2.2.2.2.2.2.2.2.2.2.2.2.2.2.2.2.2.2.2.1
theorem st_32 {Inv : Mem → Prop} (h : AllSteps Inv) : ∀ a0 a1 a2 : Int32, StpI Inv (X11_ask a0 a1 a2) (X12_ask a0 a1 a2) := h.2.2.2.2.2.2.2.2.2.2.2.2.2.2.2.2.2.2.2.2.2.2.2.2.2.2.2.2.2.2.2.2.1
theorem st_33 {Inv : Mem → Prop} (h : AllSteps Inv) : ∀ a0 : Int32, StpI Inv (X11_image a0) (X12_image a0) := h.2.2.2.2.2.2.2.2.2.2.2.2.2.2.2.2.2.2.2.2.2.2.2.2.2.2.2.2.2.2.2.2.2.1
theorem st_34 {Inv : Mem → Prop} (h : AllSteps Inv) : ∀ a0 : Int32, StpI Inv (X11_back a0) (X12_back a0) := h.2.2.2.2.2.2.2.2.2.2.2.2.2.2.2.2.2.2.2.2.2.2.2.2.2.2.2.2.2.2.2.2.2.2.1
theorem st_35 {Inv : Mem → Prop} (h : AllSteps Inv) : ∀ a0 : Int32, StpI Inv (X11_about a0) (X12_about a0) := h.2.2.2.2.2.2.2.2.2.2.2.2.2.2.2.2.2.2.2.2.2.2.2.2.2.2.2.2.2.2.2.2.2.2.2
