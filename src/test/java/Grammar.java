import java.util.ArrayList;
import java.util.List;

/**
 * Finds the first wrong byte in another way than the program does: a beginning of a text can stand
 * if some right text goes on from it, and the first token that no beginning can end with is the wrong one.
 */
final class Grammar {
    static final class Token {
        final String text;
        final int begin;

        Token(String text, int begin) {
            this.text = text;
            this.begin = begin;
        }
    }

    /** What was read so far on one way through the grammar. */
    static final class Seen {
        final int lines;
        final int soaps;
        final int dues;

        Seen(int lines, int soaps, int dues) {
            this.lines = lines;
            this.soaps = soaps;
            this.dues = dues;
        }
    }

    interface Next {
        void go(int pos, Seen seen);
    }

    private final List<Token> tokens;
    private final int length;
    private int limit;
    private boolean goesOn;
    private boolean whole;

    private Grammar(String text) {
        tokens = cut(text);
        length = text.length();
    }

    static List<Token> cut(String text) {
        List<Token> found = new ArrayList<>();
        java.util.regex.Matcher m = java.util.regex.Pattern.compile("[a-z]+|[0-9]+|[^ ]", java.util.regex.Pattern.DOTALL).matcher(text);
        while (m.find()) {
            found.add(new Token(m.group(), m.start()));
        }
        return found;
    }

    static int wrongInHouse(String text, int soaps, int dues) {
        Grammar g = new Grammar(text);
        return g.firstWrong(() -> g.houseLines(0, new Seen(0, soaps, dues)));
    }

    static int wrongInLaw(String text) {
        Grammar g = new Grammar(text);
        return g.firstWrong(() -> g.lawLines(0, new Seen(0, 0, 0)));
    }

    private int firstWrong(Runnable parse) {
        if (tokens.isEmpty()) {
            return -1;
        }
        for (limit = 1; limit <= tokens.size(); limit++) {
            goesOn = false;
            whole = false;
            parse.run();
            if (!goesOn && !whole) {
                return tokens.get(limit - 1).begin;
            }
        }
        return whole ? -1 : length;
    }

    private void token(int pos, Seen seen, java.util.function.Predicate<String> fits, Next next) {
        if (pos == limit) {
            goesOn = true;
        } else if (fits.test(tokens.get(pos).text)) {
            next.go(pos + 1, seen);
        }
    }

    private void text(int pos, Seen seen, String text, Next next) {
        token(pos, seen, t -> t.equals(text), next);
    }

    private void number(int pos, Seen seen, int least, int most, Next next) {
        token(pos, seen, t -> t.matches("[0-9]{1,3}") && Integer.parseInt(t) >= least && Integer.parseInt(t) <= most, next);
    }

    private void kinds(int pos, Seen seen, Next next) {
        token(pos, seen, t -> t.matches("[a-e]+") && t.chars().distinct().count() == t.length(), next);
    }

    private void end(int pos, Seen seen) {
        if (pos == limit) {
            whole = true;
        }
    }

    private void houseLines(int pos, Seen seen) {
        if (seen.lines == 14) {
            // A LINE too many can stand up to its first word, which cannot.
            if (pos == limit) {
                goesOn = true;
            }
            return;
        }
        Seen more = new Seen(seen.lines + 1, seen.soaps, seen.dues);
        houseLine(pos, more, (p, s) -> {
            end(p, s);
            text(p, s, ";", this::houseLines);
        });
    }

    private void houseLine(int pos, Seen seen, Next next) {
        if (seen.soaps < 6) {
            Seen more = new Seen(seen.lines, seen.soaps + 1, seen.dues);
            text(pos, more, "soap", (p, s) -> number(p, s, 0, 9, (p2, s2) -> text(p2, s2, "water", (p3, s3) ->
                    number(p3, s3, 1, 30, (p4, s4) -> text(p4, s4, "rough", (p5, s5) -> number(p5, s5, 0, 3, (p6, s6) -> {
                        next.go(p6, s6);
                        text(p6, s6, "takes", (p7, s7) -> kinds(p7, s7, next));
                    }))))));
        }
        text(pos, seen, "part", (p, s) -> number(p, s, 0, 7, (p2, s2) -> text(p2, s2, "grey", (p3, s3) ->
                number(p3, s3, 0, 9, (p4, s4) -> text(p4, s4, "thin", (p5, s5) -> number(p5, s5, 0, 9, (p6, s6) -> {
                    next.go(p6, s6);
                    text(p6, s6, "stains", (p7, s7) -> kinds(p7, s7, next));
                }))))));
        text(pos, seen, "wind", (p, s) -> number(p, s, 0, 7, (p2, s2) -> number(p2, s2, 0, 9, next)));
        if (seen.dues < 8) {
            Seen more = new Seen(seen.lines, seen.soaps, seen.dues + 1);
            text(pos, more, "due", (p, s) -> number(p, s, 0, 999, (p2, s2) -> text(p2, s2, "light", (p3, s3) ->
                    number(p3, s3, 1, 99, next))));
        }
        text(pos, seen, "spring", (p, s) -> number(p, s, 0, 20, next));
        text(pos, seen, "water", (p, s) -> number(p, s, 0, 99, next));
        text(pos, seen, "wolves", (p, s) -> number(p, s, 0, 100, next));
        text(pos, seen, "thieves", (p, s) -> number(p, s, 0, 100, next));
    }

    private void lawLines(int pos, Seen seen) {
        if (seen.lines == 12) {
            if (pos == limit) {
                goesOn = true;
            }
            return;
        }
        Seen more = new Seen(seen.lines + 1, 0, 0);
        Next behind = (p, s) -> {
            end(p, s);
            text(p, s, ";", this::lawLines);
        };
        token(pos, more, t -> t.equals("shine") || t.equals("dull") || t.equals("dry") || t.equals("soil"), (p, s) ->
                number(p, s, 0, 20, (p2, s2) -> {
                    behind.go(p2, s2);
                    text(p2, s2, "if", (p3, s3) -> condition(p3, s3, 0, behind));
                }));
    }

    private void condition(int pos, Seen seen, int deep, Next next) {
        all(pos, seen, deep, (p, s) -> {
            next.go(p, s);
            text(p, s, "or", (p2, s2) -> condition(p2, s2, deep, next));
        });
    }

    private void all(int pos, Seen seen, int deep, Next next) {
        atom(pos, seen, deep, (p, s) -> {
            next.go(p, s);
            text(p, s, "and", (p2, s2) -> all(p2, s2, deep, next));
        });
    }

    private void atom(int pos, Seen seen, int deep, Next next) {
        if (deep < 6) {
            text(pos, seen, "not", (p, s) -> atom(p, s, deep + 1, next));
            text(pos, seen, "(", (p, s) -> condition(p, s, deep + 1, (p2, s2) -> text(p2, s2, ")", next)));
        }
        token(pos, seen, t -> t.equals("full") || t.equals("hung"), next);
        sum(pos, seen, (p, s) -> token(p, s, t -> t.equals("<") || t.equals(">"), (p2, s2) -> sum(p2, s2, next)));
    }

    private void sum(int pos, Seen seen, Next next) {
        token(pos, seen, t -> t.matches("[0-9]{1,3}|part|grey|thin|wet|stains|wind|damp|night"), (p, s) -> {
            next.go(p, s);
            text(p, s, "+", (p2, s2) -> sum(p2, s2, next));
        });
    }
}
