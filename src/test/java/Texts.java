import java.util.Random;

/** Makes texts of THE HOUSE and THE LAW, right ones and ones with something wrong, from a given seed alone. */
final class Texts {
    private final Random random;

    Texts(Random random) {
        this.random = random;
    }

    private int below(int n) {
        return random.nextInt(n);
    }

    private boolean oneIn(int n) {
        return below(n) == 0;
    }

    String house() {
        return broken(lines(oneIn(6) ? 17 : 6, false));
    }

    /** A right text that gives a run something to wash with. */
    String begin() {
        StringBuilder b = new StringBuilder(oneIn(2) ? "spring 20;water 99" : "water 60");
        for (int i = 0; i < 3 + below(4); i++) {
            b.append(";soap ").append(below(6)).append(" water ").append(1 + below(oneIn(4) ? 30 : 6)).append(" rough ").append(below(4));
            b.append(" takes ").append("abcde", i % 4, i % 4 + 1 + below(2));
        }
        for (int i = 0; i < 4; i++) {
            b.append(";part ").append(below(8)).append(" grey ").append(below(10)).append(" thin ").append(below(10));
            b.append(" stains ").append("edcba", below(2), 2 + below(4));
        }
        return b.toString();
    }

    String law() {
        return broken(lines(oneIn(6) ? 15 : 5, true));
    }

    private String lines(int most, boolean law) {
        StringBuilder b = new StringBuilder();
        int n = below(most);
        int soaps = 0;
        for (int i = 0; i < n; i++) {
            String line = law ? lawLine() : houseLine();
            if (line.startsWith("soap") && ++soaps > 2 && !oneIn(8)) {
                continue;
            }
            if (b.length() + line.length() > 398) {
                break;
            }
            b.append(b.length() == 0 ? "" : oneIn(5) ? " ; " : ";").append(line);
        }
        return b.toString();
    }

    private String broken(String text) {
        if (!oneIn(4)) {
            return text;
        }
        StringBuilder b = new StringBuilder(text);
        int at = below(b.length() + 1);
        String signs = "; abe09<>()+#A\t\u00e9if";
        char sign = signs.charAt(below(signs.length()));
        switch (below(4)) {
            case 0:
                b.insert(at, sign);
                break;
            case 1:
                b.setLength(at);
                break;
            case 2:
                if (at < b.length()) {
                    b.setCharAt(at, sign);
                }
                break;
            default:
                if (at < b.length()) {
                    b.deleteCharAt(at);
                }
        }
        return b.toString();
    }

    private String number(int most) {
        int n = oneIn(60) ? most + 1 : below(most + 1);
        return (oneIn(40) ? "0" : oneIn(80) ? "000" : "") + n;
    }

    private String kinds() {
        StringBuilder b = new StringBuilder();
        for (int i = 0; i < 1 + below(3); i++) {
            char kind = (char) ('a' + below(oneIn(60) ? 6 : 5));
            if (b.indexOf(String.valueOf(kind)) < 0 || oneIn(60)) {
                b.append(kind);
            }
        }
        return b.toString();
    }

    private String houseLine() {
        String blank = oneIn(30) ? "" : oneIn(10) ? "  " : " ";
        switch (below(9)) {
            case 0:
            case 1:
                return "soap" + blank + number(9) + " water" + blank + (1 + below(oneIn(4) ? 30 : 8)) + " rough" + blank + number(3)
                        + (oneIn(4) ? "" : " takes " + kinds());
            case 2:
            case 3:
                return "part " + number(7) + blank + "grey " + number(9) + blank + "thin " + number(9)
                        + (oneIn(3) ? "" : " stains " + kinds());
            case 4:
                return "wind " + number(7) + " " + number(oneIn(3) ? 9 : 2);
            case 5:
                return "due " + number(oneIn(3) ? 999 : 60) + " light " + (1 + below(99));
            case 6:
                return (oneIn(2) ? "spring " : "spring") + number(oneIn(4) ? 20 : 3);
            case 7:
                return "water " + number(99);
            default:
                return (oneIn(2) ? "wolves " : "thieves ") + number(oneIn(3) ? 100 : 20);
        }
    }

    private String lawLine() {
        String[] heads = {"shine ", "dull ", "dry ", "soil "};
        int[] mosts = {20, 6, 4, 2};
        int kind = below(4);
        return heads[kind] + number(oneIn(8) ? 20 : mosts[kind]) + (oneIn(4) ? "" : " if " + condition(0));
    }

    private String condition(int deep) {
        StringBuilder b = new StringBuilder(atom(deep));
        while (oneIn(3)) {
            b.append(oneIn(2) ? " and " : " or ").append(atom(deep));
        }
        return b.toString();
    }

    private String atom(int deep) {
        int most = oneIn(20) ? 8 : 6;
        switch (deep >= most ? 5 : below(9)) {
            case 0:
                return "not " + atom(deep + 1);
            case 1:
                return "(" + condition(deep + 1) + ")";
            case 2:
                return "not(" + condition(deep + 2) + ")";
            case 3:
                return "full";
            case 4:
                return "hung";
            default:
                return sum() + (oneIn(2) ? "<" : " > ") + sum();
        }
    }

    private String sum() {
        StringBuilder b = new StringBuilder(term());
        while (oneIn(4)) {
            b.append(oneIn(2) ? "+" : " + ").append(term());
        }
        return b.toString();
    }

    private String term() {
        String[] names = {"part", "grey", "thin", "wet", "stains", "wind", "damp", "night"};
        return oneIn(3) ? number(oneIn(6) ? 999 : 9) : names[below(8)];
    }
}
