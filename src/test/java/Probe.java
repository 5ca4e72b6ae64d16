/** All that can be seen of a MoonWash but fault(), a row each; about 350 calls, and at last it is used up. */
final class Probe {
    private final MoonWash moon;
    private final StringBuilder rows = new StringBuilder();

    private Probe(MoonWash moon) {
        this.moon = moon;
    }

    static String all(MoonWash moon) {
        Probe p = new Probe(moon);
        p.seen();
        p.lawAndDraws();
        p.undone();
        p.image();
        p.tape();
        return p.rows.toString();
    }

    private void row(String name, long value) {
        rows.append(name).append(' ').append(value).append('\n');
    }

    private void seen() {
        counts();
        row("tape", tapeSize());
        parts(7);
        for (int soap = 0; soap < moon.count(0); soap++) {
            for (int what = 0; what < 4; what++) {
                row("soap " + soap + " what " + what, moon.soap(soap, what));
            }
        }
        for (int peg = 0; peg < 8; peg++) {
            row("wind " + peg, moon.peg(peg, false));
        }
        for (int k = 0; k < moon.count(1); k++) {
            row("night of due " + k, moon.due(k, false));
            row("light of due " + k, moon.due(k, true));
        }
        for (int ago = 0; ago < Math.min(5, moon.count(12)); ago++) {
            for (int what = 0; what < 4; what++) {
                row("log " + ago + " what " + what, moon.log(ago, what));
            }
        }
        row("like", moon.like());
    }

    private void counts() {
        for (int what = 0; what < 14; what++) {
            row("count " + what, moon.count(what));
        }
    }

    private void parts(int whats) {
        for (int part = 0; part < 8; part++) {
            for (int what = 0; what < whats; what++) {
                row("part " + part + " what " + what, moon.part(part, what));
            }
        }
    }

    /** By asking for an end at 400 and less, which cuts nothing off. */
    private int tapeSize() {
        int size = 400;
        while (size > 0 && !moon.end(size)) {
            size -= size > 40 ? 20 : 1;
        }
        return size;
    }

    private void lawAndDraws() {
        for (int part = 0; part < 8; part += 3) {
            row("white " + part, moon.part(part, 7));
            row("dries " + part, moon.part(part, 8));
        }
        row("tide", moon.tide(100, 4));
        row("light of a trial", moon.trial(5, false));
        row("stains of a trial", moon.trial(5, true));
        int seed = moon.seed(0);
        moon.seed(seed);
        row("seed", seed);
    }

    private void undone() {
        while (moon.undo()) {
            row("undone: hung", moon.count(10));
            row("undone: wet", moon.count(11));
            row("undone: water", moon.count(6));
            row("undone: night", moon.count(4));
            row("undone: left", moon.count(13));
        }
    }

    private void image() {
        row("back", moon.back() ? 1 : 0);
        counts();
        parts(4);
    }

    private void tape() {
        long read;
        try {
            read = moon.house();
        } catch (IllegalArgumentException e) {
            read = -100 - moon.fault();
        } catch (UnsupportedOperationException e) {
            read = -99;
        }
        row("house", read);
        row("water", moon.count(6));
        row("wolves", moon.count(8));
    }
}
