/** Texts by their letters alone: worked out by splitting them, judged by walking along them. */
final class PlainTexts {
    private static final String[] LEVELS = {"|", "&", "<=>", "+-", "*/%"};

    private PlainTexts() {
    }

    /** The text has no FAULT. */
    static int work(String text, String names, int a, int b, int c) {
        for (String level : LEVELS) {
            int at = lastAtTop(text, level);
            if (at >= 0) {
                int left = work(text.substring(0, at), names, a, b, c);
                int right = work(text.substring(at + 1), names, a, b, c);
                return sign(text.charAt(at), left, right);
            }
        }
        char begin = text.charAt(0);
        if (begin == '!') {
            return work(text.substring(1), names, a, b, c) == 0 ? 1 : 0;
        }
        if (begin == '(') {
            return work(text.substring(1, text.length() - 1), names, a, b, c);
        }
        int name = names.indexOf(begin);
        return name < 0 ? Integer.parseInt(text) : new int[] {a, b, c}[name];
    }

    private static int lastAtTop(String text, String signs) {
        int open = 0;
        for (int i = text.length() - 1; i >= 0; i--) {
            char sign = text.charAt(i);
            open += sign == ')' ? 1 : sign == '(' ? -1 : 0;
            if (open == 0 && signs.indexOf(sign) >= 0) {
                return i;
            }
        }
        return -1;
    }

    private static int sign(char sign, int left, int right) {
        boolean by0 = right == 0;
        return switch (sign) {
            case '|' -> left == 0 && by0 ? 0 : 1;
            case '&' -> left == 0 || by0 ? 0 : 1;
            case '<' -> left < right ? 1 : 0;
            case '=' -> left == right ? 1 : 0;
            case '>' -> left > right ? 1 : 0;
            case '+' -> (int) ((long) left + right);
            case '-' -> (int) ((long) left - right);
            case '*' -> (int) ((long) left * right);
            case '/' -> by0 ? 0 : (int) ((long) left / right);
            default -> by0 ? 0 : (int) ((long) left % right);
        };
    }

    /**
     * The first place at which no TEXT goes on; -1: it is one. Remembers what is open as letters:
     * "(" and "!", and "<" for a comparison that has had its sign.
     */
    static int fault(String text, String names) {
        String open = "";
        boolean wantsQ = true;
        int digits = 0;
        for (int i = 0; i < text.length(); i++) {
            char sign = text.charAt(i);
            boolean isDigit = sign >= '0' && sign <= '9';
            if (wantsQ) {
                if (sign == '!' || sign == '(') {
                    open += sign;
                    if (open.replace("<", "").length() > 5) {
                        return i;
                    }
                    continue;
                }
                if (!isDigit && names.indexOf(sign) < 0) {
                    return i;
                }
                digits = isDigit ? 1 : 0;
                wantsQ = false;
                open = closeNots(open);
                continue;
            }
            if (isDigit && digits >= 1 && digits < 4) {
                digits++;
                continue;
            }
            digits = 0;
            if (sign == ')') {
                open = open.endsWith("<") ? open.substring(0, open.length() - 1) : open;
                if (!open.endsWith("(")) {
                    return i;
                }
                open = closeNots(open.substring(0, open.length() - 1));
            } else if ("|&".indexOf(sign) >= 0) {
                open = open.endsWith("<") ? open.substring(0, open.length() - 1) : open;
                wantsQ = true;
            } else if ("<=>".indexOf(sign) >= 0) {
                if (open.endsWith("<")) {
                    return i;
                }
                open += "<";
                wantsQ = true;
            } else if ("+-*/%".indexOf(sign) >= 0) {
                wantsQ = true;
            } else {
                return i;
            }
        }
        return wantsQ || open.contains("(") ? text.length() : -1;
    }

    private static String closeNots(String open) {
        return open.replaceAll("!+$", "");
    }
}
