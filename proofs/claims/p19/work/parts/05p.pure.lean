section E05p
end E05p
