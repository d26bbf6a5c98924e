section E06
end E06
