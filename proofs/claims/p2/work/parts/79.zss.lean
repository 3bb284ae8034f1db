theorem ss_image (g : St_Log) (a b : St_Bytes) : s_image (s_image g a) b = s_image g b := rfl
theorem sr_draft (g : St_Ref) (a b : AI) : s_Rdraft (s_Rdraft g a) b = s_Rdraft g b := rfl
