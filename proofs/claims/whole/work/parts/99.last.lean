theorem zz_last : True := by have := @pm_kind; have := @pm_letter; have := @pm_image; have := @pm_on; have := @pm_length; trivial
