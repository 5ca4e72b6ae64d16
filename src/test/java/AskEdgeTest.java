/** SHINES to LED: none, of several the least, the first such way, 0 to 40 NIGHTS, and the MOON that goes round. */
public final class AskEdgeTest extends Check {
    private static final String SOAP = "soap 0 water 1 rough 0";
    private static final String BY_DAMP = "shine 1 if damp>0;shine 1 if damp>1;shine 1 if damp>2;shine 1 if damp>3;shine 1 if damp>4;"
            + "shine 1 if damp>5;shine 1 if damp>6;shine 1 if damp>7;shine 1 if damp>8";

    public static void main(String[] args) {
        shines();
        light();
        would();
        best();
        least();
        leastWay();
        leastSoaps();
        leastAsIf();
        never();
        soaps();
        washes();
        soonest();
        soonestWay();
        soonestBounds();
        dried();
        stained();
        tries();
        watch();
        row();
        share();
        darkest();
        darkestOfAll();
        tide();
        late();
        enough();
        wears();
        like();
        halves();
        trial();
        span();
        led();
        end("AskEdgeTest");
    }

    private static MoonWash without(int... parts) {
        MoonWash m = new MoonWash();
        for (int part : parts) {
            m.hang(part, false);
        }
        return m;
    }

    /** These parts alone hang. */
    private static MoonWash only(int... parts) {
        MoonWash m = without(0, 1, 2, 3, 4, 5, 6, 7);
        for (int part : parts) {
            m.hang(part, true);
        }
        return m;
    }

    private static MoonWash wet(MoonWash m, int... parts) {
        for (int part : parts) {
            m.wash(part, 0);
            m.hang(part, true);
        }
        return m;
    }

    private static void shines() {
        holds("SHINES: PARTS with LIGHT above 0: 1 does, 0 does not", () ->
                is("shines", with("part 0 grey 9 thin 0;part 1 grey 8 thin 0;part 7 grey 9 thin 0").shines(), 126));
        holds("SHINES, as bits: all, none, 0 and 7", () -> {
            is("all", new MoonWash().shines(), 255);
            is("none", only().shines(), 0);
            is("0 and 7", only(0, 7).shines(), 129);
        });
        holds("SHINES: not what is WET", () -> is("shines", wet(with(SOAP), 3).shines(), 247));
    }

    private static void light() {
        holds("ALL LIGHT: of all PARTS together: 0 to 160", () -> {
            is("at first", new MoonWash().light(), 72);
            is("the most", with("", "shine 11").light(), 160);
            is("the least", with("", "dull 9").light(), 0);
            is("none hung", only().light(), 0);
            is("0 and 7", only(0, 7).light(), 18);
        });
    }

    private static void would() {
        holds("WOULD: WATER of THE TROUGH not looked at", () ->
                is("would", with("water 0;soap 9 water 30 rough 0;part 0 grey 9 thin 0").would(0, 0), 9));
        holds("WOULD: WET then 0, HUNG", () -> {
            MoonWash m = with("soap 0 water 1 rough 0", "shine 1 if wet<1;shine 2 if hung");
            m.wash(0, 0);
            is("would", m.would(0, 0), 12);
            is("as it is", m.part(0, 7), 9);
            law(m, "shine 1 if wet+1>0;shine 2 if wet+1<2");
            is("just 0", m.would(0, 0), 12);
        });
        holds("WOULD: GREY less (0 at least)", () -> {
            MoonWash m = with("soap 5 water 1 rough 0;part 0 grey 6 thin 0;part 1 grey 5 thin 0;part 2 grey 4 thin 0");
            is("of 6", m.would(0, 0), 8);
            is("of 5", m.would(1, 0), 9);
            is("of 4", m.would(2, 0), 9);
        });
        holds("WOULD: THIN more (9 at most)", () -> {
            MoonWash m = with("soap 0 water 1 rough 3;part 0 grey 0 thin 4;part 1 grey 0 thin 5;part 2 grey 0 thin 9", "shine 1 if thin>8;shine 2 if thin>9");
            is("8", m.would(0, 0), 9);
            is("9", m.would(1, 0), 10);
            is("9 at most", m.would(2, 0), 10);
        });
        holds("WOULD: STAINS that it TAKES", () ->
                is("would", with("soap 0 water 1 rough 0 takes ab;part 0 grey 0 thin 0 stains bc").would(0, 0), 8));
        holds("WOULD: by that SOAP alone", () -> {
            MoonWash m = with("soap 1 water 1 rough 0 takes ab;soap 4 water 1 rough 2 takes bcd;part 3 grey 6 thin 1 stains abcd",
                    "shine 5 if thin>3;shine 6 if thin<3");
            is("by 0", m.would(3, 0), 9 - 5 - 2 + 6);
            is("by 1", m.would(3, 1), 9 - 2 - 1 + 5);
        });
        holds("WOULD: WHITE 0 at least, 20 at most", () -> {
            is("20", with(SOAP, "shine 20").would(0, 0), 20);
            is("0", with(SOAP, "dull 20").would(0, 0), 0);
        });
        holds("WOULD: nothing changes", () -> asks("would", m -> m.would(1, 0)));
    }

    private static void best() {
        holds("BEST SOAP: by which WOULD is the greatest", () ->
                is("best", with("soap 3 water 1 rough 0;soap 4 water 30 rough 0;part 0 grey 9 thin 0").best(0), 1));
        holds("BEST SOAP: of several the one of the least WATER", () -> {
            is("the second", with("soap 4 water 9 rough 0;soap 4 water 8 rough 0").best(0), 1);
            is("the first", with("soap 4 water 8 rough 0;soap 4 water 9 rough 0").best(0), 0);
        });
        holds("BEST SOAP: then the least", () ->
                is("best", with("soap 0 water 9 rough 0;soap 4 water 8 rough 0;soap 4 water 8 rough 0").best(0), 1));
        holds("BEST SOAP: none without SOAPS", () -> {
            is("best", new MoonWash().best(0), NONE);
            MoonWash m = with(SOAP);
            is("best", m.best(7), 0);
            m.drop(0);
            is("thrown away", m.best(7), NONE);
        });
        holds("BEST SOAP: also if WOULD is 0 by each, and the sixth", () -> {
            is("of 0", with(SOAP, "dull 20").best(0), 0);
            is("the sixth", with(times(5, "soap 0 water 9 rough 0") + ";soap 0 water 8 rough 0").best(0), 5);
        });
    }

    private static void least() {
        holds("LEAST WATER for a LIGHT (0 to 160): 0", () -> {
            is("dark", with("", "dull 20").least(0, NONE), 0);
            is("part", with(SOAP, "dull 20").least(0, 0), NONE);
        });
        holds("LEAST WATER for a LIGHT (0 to 160): 160", () -> {
            is("there", with("", "shine 11").least(160, NONE), 0);
            is("not there", with("", "shine 11;dull 1 if part>6").least(160, NONE), NONE);
            noNumber("161", m -> m.least(161, NONE));
            noNumber("-1", m -> m.least(-1, NONE));
        });
        holds("LEAST WATER: WHITE of all together is that at least: the same, and one more", () -> {
            MoonWash m = with("soap 1 water 4 rough 0;part 0 grey 2 thin 0");
            is("70 is there", m.least(70, NONE), 0);
            is("71", m.least(71, NONE), 4);
            is("72: each PART by one SOAP, once", m.least(72, NONE), NONE);
            is("no part either", m.least(72, 0), NONE);
        });
        holds("LEAST WATER: more LIGHT for less WATER does as well", () ->
                is("least", with("soap 1 water 9 rough 0;soap 5 water 2 rough 0;part 0 grey 5 thin 0").least(68, NONE), 2));
        holds("LEAST WATER: all eight by the dearest", () -> {
            MoonWash m = with("soap 0 water 30 rough 0;" + greyAll(9), "shine 20 if thin>0");
            is("160", m.least(160, NONE), 240);
            is("141", m.least(141, NONE), 240);
            is("the first, too", m.least(141, 0), 0);
            is("140", m.least(140, NONE), 210);
            is("the first is not washed", m.least(140, 0), NONE);
            is("the second is", m.least(140, 1), 0);
        });
    }

    private static String greyAll(int grey) {
        StringBuilder b = new StringBuilder();
        for (int part = 0; part < 8; part++) {
            b.append(part == 0 ? "" : ";").append("part ").append(part).append(" grey ").append(grey).append(" thin 0");
        }
        return b.toString();
    }

    private static void leastWay() {
        holds("LEAST WATER: the first such way: PART 0 by none, if that can be", () -> {
            MoonWash m = with("soap 1 water 3 rough 0;part 0 grey 1 thin 0;part 7 grey 1 thin 0");
            is("water", m.least(71, NONE), 3);
            is("part 0", m.least(71, 0), NONE);
            is("part 7", m.least(71, 7), 0);
        });
        holds("LEAST WATER: the first such way: else by the least SOAP that can be", () -> {
            MoonWash m = with("soap 1 water 4 rough 0;soap 1 water 3 rough 0;soap 1 water 3 rough 0;soap 2 water 3 rough 0;part 0 grey 2 thin 0");
            is("71", m.least(71, 0), 1);
            is("72", m.least(72, 0), 3);
        });
        holds("LEAST WATER: the first such way: then 1, ..", () -> {
            MoonWash m = with("soap 1 water 3 rough 0;part 2 grey 1 thin 0;part 4 grey 1 thin 0;part 6 grey 1 thin 0");
            is("part 2", m.least(71, 2), NONE);
            is("part 4", m.least(71, 4), 0);
            is("part 6", m.least(71, 6), 0);
            is("part 2 of all", m.least(72, 2), 0);
        });
        holds("LEAST WATER: the first of those of the least WATER alone", () -> {
            MoonWash m = with("soap 1 water 2 rough 0;soap 2 water 5 rough 0;part 0 grey 2 thin 0;part 7 grey 2 thin 0");
            is("water", m.least(70, NONE), 4);
            is("part 0", m.least(70, 0), 0);
            is("part 7", m.least(70, 7), 0);
        });
        holds("LEAST WATER: by none, if all is there", () -> {
            MoonWash m = with("soap 9 water 1 rough 0;part 3 grey 5 thin 0");
            for (int part = 0; part < 8; part++) {
                is("part " + part, m.least(67, part), NONE);
            }
        });
        holds("LEAST WATER: without SOAPS", () -> {
            is("there", new MoonWash().least(72, NONE), 0);
            is("not there", new MoonWash().least(73, NONE), NONE);
            is("a part", new MoonWash().least(72, 7), NONE);
        });
    }

    private static void leastSoaps() {
        holds("LEAST WATER: by the sixth SOAP", () -> {
            MoonWash m = with(times(5, "soap 1 water 9 rough 0") + ";soap 9 water 8 rough 0;part 0 grey 9 thin 0;part 7 grey 9 thin 0");
            is("water", m.least(72, NONE), 16);
            is("part 0", m.least(72, 0), 5);
            is("part 1", m.least(72, 1), NONE);
            is("part 7", m.least(72, 7), 5);
        });
        holds("LEAST WATER: a SOAP thrown away washes no more", () -> {
            MoonWash m = with("soap 1 water 9 rough 0;soap 9 water 1 rough 0;part 0 grey 9 thin 0");
            is("by the second", m.least(72, NONE), 1);
            m.drop(1);
            is("not any more", m.least(72, NONE), NONE);
            is("by the first", m.least(64, NONE), 9);
            MoonWash six = with(times(5, "soap 1 water 9 rough 0") + ";soap 9 water 8 rough 0;part 0 grey 9 thin 0");
            is("by the sixth", six.least(72, NONE), 8);
            six.drop(5);
            is("not any more", six.least(72, NONE), NONE);
        });
        holds("LEAST WATER: behind what is enough none is WASHED", () -> {
            MoonWash m = with(SOAP, "dull 9 if part>0 and thin<1");
            is("water", m.least(9, NONE), 0);
            for (int part = 0; part < 8; part++) {
                is("part " + part, m.least(9, part), NONE);
            }
            is("one more", m.least(10, 7), 0);
        });
    }

    private static void leastAsIf() {
        holds("LEAST WATER: all others as if they were HUNG and not WET", () -> {
            MoonWash m = with(SOAP, "shine 1 if hung;shine 1 if wet<1");
            m.wash(0, 0);
            m.hang(1, false);
            is("all", m.least(88, NONE), 0);
            is("more", m.least(89, NONE), NONE);
        });
        holds("LEAST WATER: WATER of THE TROUGH not looked at", () ->
                is("least", with("water 0;soap 9 water 30 rough 0;part 0 grey 9 thin 0").least(72, NONE), 30));
        holds("LEAST WATER: nothing changes", () -> asks("least", m -> m.least(80, 6)));
    }

    private static void never() {
        holds("NEVER: KINDS that a PART has and no SOAP TAKES, as bits", () -> {
            MoonWash m = with("soap 0 water 1 rough 0 takes a;soap 0 water 1 rough 0 takes d;part 0 grey 0 thin 0 stains abde");
            is("never", m.part(0, 10), 18);
            is("of none", m.part(1, 10), 0);
            m.drop(1);
            is("one thrown away", m.part(0, 10), 26);
        });
        holds("NEVER: the sixth SOAP, and without it", () -> {
            MoonWash m = with(takes("a", "", "", "", "", "b") + ";part 0 grey 0 thin 0 stains abc");
            is("with it", m.part(0, 10), 4);
            is("soaps", m.soaps(0), 33);
            m.drop(5);
            is("without it", m.part(0, 10), 6);
            is("soaps", m.soaps(0), 1);
        });
        holds("NEVER: all without SOAPS, none with a SOAP for all", () -> {
            is("without", with("part 0 grey 0 thin 0 stains abcde").part(0, 10), 31);
            is("with", with("part 0 grey 0 thin 0 stains abcde;soap 0 water 1 rough 0 takes abcde").part(0, 10), 0);
        });
    }

    private static void soaps() {
        holds("SOAPS for a PART: the fewest", () ->
                is("one of all", with(takes("a", "b", "c", "abc") + ";part 0 grey 0 thin 0 stains abc").soaps(0), 8));
        holds("SOAPS for a PART: of several the least as bits", () -> {
            is("two ways of one", with(takes("ab", "ab") + ";part 0 grey 0 thin 0 stains ab").soaps(0), 1);
            is("two ways of two", with(takes("a", "bc", "c", "ab") + ";part 0 grey 0 thin 0 stains abc").soaps(0), 3);
        });
        holds("SOAPS for a PART: the fewest ahead of the least as bits", () ->
                is("soaps", with(takes("a", "b", "c", "d", "e", "abcde") + ";part 0 grey 0 thin 0 stains abcde").soaps(0), 32));
        holds("SOAPS for a PART: all STAINS that can come out", () ->
                is("but c", with(takes("a", "b") + ";part 0 grey 0 thin 0 stains abc").soaps(0), 3));
        holds("SOAPS for a PART: all five that there need be", () ->
                is("soaps", with(takes("", "a", "b", "c", "d", "e") + ";part 0 grey 0 thin 0 stains abcde").soaps(0), 62));
        holds("SOAPS for a PART: none", () -> {
            is("no stains", with(takes("a")).soaps(0), 0);
            is("none can come out", with(takes("a") + ";part 0 grey 0 thin 0 stains b").soaps(0), 0);
            is("without soaps", with("part 0 grey 0 thin 0 stains b").soaps(0), 0);
        });
    }

    /** Soaps that take these kinds. */
    private static String takes(String... kinds) {
        StringBuilder b = new StringBuilder();
        for (String k : kinds) {
            b.append(b.length() == 0 ? "" : ";").append(SOAP).append(k.isEmpty() ? "" : " takes " + k);
        }
        return b.toString();
    }

    private static void washes() {
        holds("WASHES till it is white: how many WASHINGS till GREY is 0", () -> {
            MoonWash m = with("soap 4 water 1 rough 0;part 0 grey 8 thin 0;part 1 grey 9 thin 0;part 2 grey 4 thin 0;part 3 grey 1 thin 0;part 4 grey 5 thin 0");
            int[] due = {2, 3, 1, 1, 2};
            for (int part = 0; part < due.length; part++) {
                is("part " + part, m.washes(part, 0), due[part]);
            }
        });
        holds("WASHES: 0, if it is", () -> {
            is("by 9", with("soap 9 water 1 rough 0").washes(0, 0), 0);
            is("by 0", with(SOAP).washes(0, 0), 0);
        });
        holds("WASHES: none, if STRENGTH is 0", () -> is("by 0", with(SOAP + ";part 0 grey 1 thin 0").washes(0, 0), NONE));
        holds("WASHES: of 1 and of 9", () -> {
            is("9 by 1", with("soap 1 water 1 rough 0;part 0 grey 9 thin 0").washes(0, 0), 9);
            is("9 by 9", with("soap 9 water 1 rough 0;part 0 grey 9 thin 0").washes(0, 0), 1);
        });
        holds("WASHES: by that SOAP alone", () -> {
            MoonWash m = with("soap 2 water 1 rough 0;soap 0 water 1 rough 0;soap 5 water 1 rough 0;part 0 grey 9 thin 0");
            is("by 0", m.washes(0, 0), 5);
            is("by 1", m.washes(0, 1), NONE);
            is("by 2", m.washes(0, 2), 2);
        });
        holds("WASHES: WATER of THE TROUGH not looked at", () ->
                is("washes", with("water 0;soap 1 water 30 rough 0;part 0 grey 9 thin 0").washes(0, 0), 9));
    }

    private static void soonest() {
        holds("SOONEST: 0, if no PART that is HUNG is WET", () -> {
            is("none wet", new MoonWash().soonest(9, NONE), 0);
            MoonWash m = with(SOAP);
            m.wash(0, 0);
            is("wet, not hung", m.soonest(9, NONE), 0);
        });
        holds("SOONEST: behind which no PART that is HUNG is WET: the slowest counts", () -> {
            MoonWash m = wet(with(SOAP + ";" + winds("95000000")), 3, 4);
            is("1 and 2", m.soonest(0, NONE), 2);
        });
        holds("SOONEST: of all ways: another PEG than its own, also that of one not WET", () -> {
            MoonWash m = wet(with(SOAP + ";" + winds("00000009")), 0);
            is("nights", m.soonest(0, NONE), 1);
            is("peg", m.soonest(0, 0), 7);
            is("part 7 has another", m.soonest(0, 7), 6);
        });
        holds("SOONEST: all eight", () -> {
            MoonWash m = wet(with(SOAP + ";" + winds("31111111")), 0, 1, 2, 3, 4, 5, 6, 7);
            is("nights", m.soonest(0, NONE), 9);
            is("damp of 2 the same", m.soonest(2, NONE), 9);
            is("damp of 3: none", m.soonest(3, NONE), NONE);
        });
        holds("SOONEST: nothing moves", () -> asks("soonest", m -> m.soonest(4, 1)));
    }

    private static String winds(String winds) {
        StringBuilder b = new StringBuilder();
        for (int peg = 0; peg < 8; peg++) {
            b.append(peg == 0 ? "" : ";").append("wind ").append(peg).append(' ').append(winds.charAt(peg));
        }
        return b.toString();
    }

    private static void way(MoonWash m, int damp, String due) {
        StringBuilder got = new StringBuilder();
        for (int part = 0; part < 8; part++) {
            got.append(m.soonest(damp, part));
        }
        is("pegs of all parts", got.toString(), due);
    }

    private static void soonestWay() {
        holds("SOONEST: the first such way (PART 0 the least PEG that can be, then 1, ..): none WET", () -> {
            MoonWash m = new MoonWash();
            m.move(0, 7);
            way(m, 0, "01234567");
        });
        holds("SOONEST: the first such way: one has the only PEG", () -> {
            way(wet(with(SOAP + ";" + winds("93333333")), 7), 0, "12345670");
            is("nights", wet(with(SOAP + ";" + winds("93333333")), 7).soonest(0, NONE), 1);
            way(wet(with(SOAP + ";" + winds("33333339")), 0), 0, "70123456");
            is("nights", wet(with(SOAP + ";" + winds("33333339")), 0).soonest(0, NONE), 1);
        });
        holds("SOONEST: the first such way: PART 0 the least of those that can be", () -> {
            way(wet(with(SOAP + ";" + winds("05550000")), 0), 0, "10234567");
            way(wet(with(SOAP + ";" + winds("05550000")), 0, 1, 2), 0, "12304567");
        });
        holds("SOONEST: the first such way: one slower than need be, if all together are no slower", () ->
                way(wet(with(SOAP + ";" + winds("50000009")), 0, 1), 0, "07123456"));
        holds("SOONEST: the first such way: a PART not HUNG may have any", () -> {
            MoonWash m = wet(with(SOAP + ";" + winds("90000000")), 0, 1);
            m.hang(0, false);
            way(m, 0, "10234567");
        });
        holds("SOONEST: none, if there is no such way", () -> {
            MoonWash m = wet(with(SOAP + ";" + winds("90000000")), 0, 1);
            is("nights", m.soonest(0, NONE), NONE);
            way(m, 0, "-1-1-1-1-1-1-1-1");
        });
    }

    private static void soonestBounds() {
        holds("SOONEST: AHEAD at most 40", () -> {
            MoonWash m = wet(with(SOAP + ";" + winds("00000000"), "dry 9 if night>38"), 5);
            is("40", m.soonest(0, NONE), 40);
            is("peg", m.soonest(0, 5), 5);
            law(m, "dry 9 if night>39");
            is("41", m.soonest(0, NONE), NONE);
            is("peg", m.soonest(0, 5), NONE);
        });
        holds("SOONEST: of a told DAMP", () -> {
            MoonWash m = wet(with(SOAP + ";" + winds("33333333")), 5);
            is("2", m.soonest(2, NONE), 3);
            is("3", m.soonest(3, NONE), 5);
            is("8", m.soonest(8, NONE), 9);
            is("9", m.soonest(9, NONE), NONE);
        });
        holds("SOONEST: by THE LAW of each NIGHT and of WIND", () -> {
            MoonWash m = wet(with(SOAP + ";" + winds("12345678"), "dry 20 if wind>4 and wind<6;dry 1 if damp>5 and wet<9"), 5);
            is("nights", m.soonest(0, NONE), 1);
            is("peg", m.soonest(0, 5), 4);
        });
    }

    private static void dried() {
        holds("DRIED: the first of 0 to 40 NIGHTS: 0", () -> {
            is("not wet", new MoonWash().dried(0, 9), 0);
            MoonWash m = new MoonWash();
            m.hang(0, false);
            is("nor hung", m.dried(0, 9), 0);
        });
        holds("DRIED: the first of 0 to 40 NIGHTS: 40, and none", () -> {
            MoonWash m = wet(with(SOAP + ";wind 0 0", "dry 9 if night>38"), 0);
            is("40", m.dried(0, 0), 40);
            law(m, "dry 9 if night>39");
            is("41", m.dried(0, 0), NONE);
        });
        holds("DRIED: just dry, and 1 left", () -> {
            MoonWash m = wet(with(SOAP + ";wind 0 9;wind 1 8"), 0, 1);
            is("by 9", m.dried(0, 0), 1);
            is("by 8", m.dried(1, 0), 2);
        });
        holds("DRIED: of a told DAMP", () -> {
            MoonWash m = wet(with(SOAP + ";wind 0 9"), 0);
            is("2", m.dried(0, 2), 1);
            is("3", m.dried(0, 3), 2);
        });
        holds("DRIED: none, if it is WET and not HUNG", () -> {
            MoonWash m = with(SOAP, "dry 20");
            m.wash(0, 0);
            is("down", m.dried(0, 0), NONE);
            m.hang(0, true);
            is("hung", m.dried(0, 0), 1);
        });
    }

    private static long stained(MoonWash m, String tape, boolean sure) {
        Tape.put(m, tape);
        return m.stained(sure);
    }

    private static void stained() {
        holds("STAINED: sets of KINDS (0 to 31): all, if nothing is told", () -> {
            is("many", stained(with(takes("a")), "", false), 32);
            is("without soaps", stained(new MoonWash(), "", false), 32);
        });
        holds("STAINED: a STAIN was left", () -> {
            is("by abcd", stained(with(takes("abcd")), "\0\1", false), 16);
            is("e is in all", stained(with(takes("abcd")), "\0\1", true), 16);
            is("by all", stained(with(takes("abcde")), "\0\1", false), 0);
            is("by none", stained(with(takes("")), "\0\1", false), 31);
        });
        holds("STAINED: none was left", () -> {
            is("by abcd", stained(with(takes("abcd")), "\0\0", false), 16);
            is("by all", stained(with(takes("abcde")), "\0\0", false), 32);
            is("by none", stained(with(takes("")), "\0\0", false), 1);
        });
        holds("STAINED: each tried on the PART as it was, alone", () -> {
            MoonWash m = with(takes("a", "b"));
            is("also a and b together", stained(m, "\0\1\1\1", false), 29);
            is("the same twice", stained(m, "\0\1\0\1", false), stained(m, "\0\1", false));
        });
        holds("STAINED: KINDS that are in all of these", () -> {
            MoonWash m = with(takes("abcd", "bcde"));
            is("a and e", stained(m, "\0\1\1\1", true), 17);
            is("a", stained(m, "\0\0\1\1", true), 1);
            is("none", stained(m, "\0\0", true), 0);
        });
        holds("STAINED: KINDS in all (0 without)", () -> {
            MoonWash m = with(takes("a"));
            is("none fit", stained(m, "\0\0\0\1", false), 0);
            is("in all", stained(m, "\0\0\0\1", true), 0);
        });
        holds("STAINED: the set of none, of all", () -> {
            MoonWash m = with(takes("", "bcde", "acde", "abde", "abce", "abcd"));
            is("of none: how many", stained(m, "\0\0", false), 1);
            is("of none: in all", stained(m, "\0\0", true), 0);
            is("of all: how many", stained(m, "\1\1\2\1\3\1\4\1\5\1", false), 1);
            is("of all: in all", stained(m, "\1\1\2\1\3\1\4\1\5\1", true), 31);
        });
    }

    private static long tries(MoonWash m, String tape) {
        Tape.put(m, tape);
        return m.tries();
    }

    private static void tries() {
        holds("TRY: so that the greater part is the least", () -> {
            is("16 of 32", tries(with(takes("a", "abcd", "ab")), ""), 1);
            is("24 and 8 ahead of 28 and 4", tries(with(takes("ab", "abc")), ""), 1);
        });
        holds("TRY: the greater part, be it that of a STAIN left or of none", () ->
                // Of a alone or with others: by bcde always left; by abcde never.
                is("the last parts it", tries(with(takes("bcde", "abcde", "abcd")), "\0\1"), 2));
        holds("TRY: of several the least", () -> is("tries", tries(with(takes("", "ab", "cd")), ""), 1));
        holds("TRY: also one that parts nothing", () -> is("tries", tries(with(takes("abcde", "abcde")), ""), 0));
        holds("TRY: none with fewer than two: of two, of one, of none", () -> {
            MoonWash m = with(takes("a", "", "abcde"));
            is("of two", tries(m, "\0\0"), 1);
            is("of one", tries(m, "\1\0"), NONE);
            is("of none", tries(m, "\2\1"), NONE);
        });
        holds("TRY: none without SOAPS", () -> is("tries", tries(new MoonWash(), ""), NONE));
        holds("TRY: the sixth", () -> is("tries", tries(with(takes("", "", "", "", "", "abcd")), ""), 5));
    }

    private static void watch() {
        holds("WATCH: the fewest PEGS: each of these, or beside one", () -> {
            is("all", new MoonWash().watch(), 73);
            is("three in a row", only(3, 4, 5).watch(), 16);
            is("four in a row", only(2, 3, 4, 5).watch(), 18);
            is("two apart", only(2, 4).watch(), 8);
            is("three apart", only(2, 5).watch(), 18);
        });
        holds("WATCH: (PEGS 0 and 7 are not beside each other)", () -> {
            is("0 and 7", only(0, 7).watch(), 65);
            is("0, 1 and 7", only(0, 1, 7).watch(), 65);
            is("0, 6 and 7", only(0, 6, 7).watch(), 65);
        });
        holds("WATCH: of several the least as bits", () -> {
            is("0", only(0).watch(), 1);
            is("1", only(1).watch(), 1);
            is("6", only(6).watch(), 32);
            is("7", only(7).watch(), 64);
        });
        holds("WATCH: none HUNG", () -> is("watch", only().watch(), 0));
        holds("WATCH: PEGS, not PARTS; WET or not", () -> {
            MoonWash m = with(SOAP);
            for (int part = 1; part < 8; part++) {
                m.hang(part, false);
            }
            m.move(0, 5);
            is("part 0 on peg 5", m.watch(), 16);
            wet(m, 0);
            is("wet", m.watch(), 16);
        });
    }

    private static void row() {
        holds("ROW: all eight, none, one", () -> {
            is("all", new MoonWash().row(), 8);
            is("none", only().row(), 0);
            is("0", only(0).row(), 1);
            is("7", only(7).row(), 1);
        });
        holds("ROW: (the MOON goes round: 7 and 0, too)", () -> {
            is("7 and 0", only(7, 0).row(), 2);
            is("5 to 1", only(5, 6, 7, 0, 1, 3).row(), 5);
            is("all but 0", without(0).row(), 7);
            is("all but 7", without(7).row(), 7);
            is("all but 4", without(4).row(), 7);
        });
        holds("ROW: the most", () -> {
            is("the first", only(0, 1, 2, 4, 5).row(), 3);
            is("the last", only(1, 2, 4, 5, 6).row(), 3);
            is("none beside another", only(0, 2, 4, 6).row(), 1);
        });
        holds("ROW: PARTS by numbers, not PEGS", () -> {
            MoonWash m = only(0, 4);
            m.move(4, 1);
            is("row", m.row(), 1);
        });
        holds("ROW: that SHINE", () -> {
            is("not what is wet", wet(with(SOAP), 4).row(), 7);
            is("not what is dark", with("part 4 grey 9 thin 0").row(), 7);
        });
    }

    private static void share() {
        holds("SHARE: LIGHT in hundredths of ALL LIGHT, rounded down", () -> {
            is("9 of 72", new MoonWash().part(0, 9), 12);
            is("1 of 64", with("part 0 grey 8 thin 0").part(0, 9), 1);
            is("1 of 160 at most", with("part 0 grey 9 thin 0", "shine 1;shine 19 if part>0").part(0, 9), 0);
            is("2 of 3", with("part 0 grey 7 thin 0;part 1 grey 8 thin 0", "dull 9 if part>1").part(0, 9), 66);
        });
        holds("SHARE: all of it", () -> is("share", only(5).part(5, 9), 100));
        holds("SHARE: (0 without)", () -> {
            is("without any", only().part(0, 9), 0);
            is("without its own", without(0).part(0, 9), 0);
        });
    }

    private static void darkest() {
        holds("DARKEST: the PART of the least LIGHT (of several the least)", () -> {
            is("all the same", new MoonWash().darkest(), 0);
            is("none", only().darkest(), 0);
            is("7", without(7).darkest(), 7);
            is("5 and 7", without(5, 7).darkest(), 5);
            is("by one", with("part 3 grey 1 thin 0;part 6 grey 2 thin 0").darkest(), 6);
            is("of one more the least", with("part 0 grey 1 thin 0;part 6 grey 2 thin 0;part 7 grey 2 thin 0").darkest(), 6);
        });
    }

    private static void darkestOfAll() {
        holds("DARKEST: each of 0 to 7", () -> {
            for (int part = 0; part < 8; part++) {
                is("part " + part, with("part " + part + " grey 1 thin 0").darkest(), part);
                is("from it on", with(greyFrom(part)).darkest(), part);
            }
        });
    }

    private static String greyFrom(int part) {
        StringBuilder b = new StringBuilder("spring 5");
        for (int p = part; p < 8; p++) {
            b.append(";part ").append(p).append(" grey 1 thin 0");
        }
        return b.toString();
    }

    private static void tide() {
        holds("TIDE: the first N (0 to 40): 0", () -> {
            is("there", new MoonWash().tide(72, 9), 0);
            is("0 of light", only().tide(0, 9), 0);
        });
        holds("TIDE: the first N (0 to 40): 40, and none", () -> {
            is("40", with("", "shine 1 if night>39").tide(80, 0), 40);
            is("41", with("", "shine 1 if night>40").tide(80, 0), NONE);
        });
        holds("TIDE: a told LIGHT at least: the same, and one more", () -> {
            MoonWash m = wet(with(SOAP), 0);
            is("63", m.tide(63, 0), 0);
            is("64", m.tide(64, 0), 3);
            is("72", m.tide(72, 0), 3);
            is("73", m.tide(73, 0), NONE);
        });
        holds("TIDE: the first, also if it goes again", () -> {
            MoonWash m = with("", "shine 1 if night>2 and night<4");
            is("80", m.tide(80, 0), 3);
        });
        holds("TIDE: (0 to 160): 160", () -> {
            is("there", with("", "shine 11").tide(160, 0), 0);
            is("never", with("", "shine 10").tide(160, 0), NONE);
        });
        holds("TIDE: of a told DAMP, but for now", () -> {
            MoonWash m = with("", "shine 1 if damp>5");
            is("6", m.tide(80, 6), 1);
            is("5", m.tide(80, 5), NONE);
        });
        holds("TIDE: nothing stays", () -> asks("tide", m -> m.tide(160, 9)));
    }

    private static void late() {
        holds("LATE: DUES whose NIGHT is 0 to 40 NIGHTS from now: 0, 40 and 41", () ->
                is("late", with("due 0 light 73;due 40 light 73;due 41 light 73;due 999 light 99").late(0), 3));
        holds("LATE: NIGHT from now, not what is behind", () -> {
            MoonWash m = with("due 9 light 99;due 10 light 99;due 50 light 99;due 51 light 99");
            m.nights(10);
            is("late", m.late(0), 6);
        });
        holds("LATE: ALL LIGHT by then is less: the same is not", () ->
                is("late", with("due 0 light 72;due 0 light 73;due 7 light 72;due 7 light 73").late(0), 10));
        holds("LATE: ALL LIGHT AHEAD by then, of a told DAMP", () -> {
            MoonWash m = with("due 0 light 80;due 1 light 80", "shine 1 if damp>5;soil 1 if night>0");
            is("6", m.late(6), 1);
            is("5", m.late(5), 3);
            MoonWash soiled = with("due 1 light 72;due 2 light 72;due 2 light 64", "soil 1 if night>0");
            is("soiled in the second", soiled.late(0), 2);
        });
        holds("LATE, as bits: all eight, none", () -> {
            is("all", with(times(8, "due 3 light 99")).late(0), 255);
            is("none", with(times(8, "due 3 light 9")).late(0), 0);
            is("without dues", new MoonWash().late(0), 0);
        });
        holds("LATE: nothing stays", () -> asks("late", m -> m.late(9)));
    }

    private static void enough() {
        holds("ENOUGH: in how many NIGHTS (0 to 99): 0", () -> {
            is("as much", new MoonWash().enough(30), 0);
            is("0", with("water 0;spring 0").enough(0), 0);
        });
        holds("ENOUGH: one more", () -> {
            is("31", new MoonWash().enough(31), 1);
            is("35", new MoonWash().enough(35), 1);
            is("36", new MoonWash().enough(36), 2);
        });
        holds("ENOUGH: in how many NIGHTS (0 to 99): 99", () -> is("99", with("water 0;spring 1").enough(99), 99));
        holds("ENOUGH: so much WATER (0 to 99): 99 though more would come", () ->
                is("99", with("water 98;spring 20").enough(99), 1));
        holds("ENOUGH: none", () -> {
            is("none", with("water 98;spring 0").enough(99), NONE);
            is("there", with("water 99;spring 0").enough(99), 0);
        });
    }

    private static void wears() {
        holds("WEARS: how often a PART can be WASHED till THIN is 9", () -> {
            MoonWash m = with("soap 0 water 1 rough 3;soap 0 water 30 rough 0;part 0 grey 0 thin 0;part 1 grey 0 thin 1;part 2 grey 0 thin 5;part 3 grey 0 thin 8");
            int[] due = {3, 2, 1, 1};
            for (int part = 0; part < due.length; part++) {
                is("part " + part, m.wears(part, 0), due[part]);
            }
            is("by 1", m.wears(0, 1), 9);
        });
        holds("WEARS: by that SOAP alone; WATER of THE TROUGH not looked at", () -> {
            MoonWash m = with("water 0;soap 0 water 30 rough 0;soap 0 water 30 rough 1;soap 0 water 30 rough 2;part 0 grey 0 thin 2");
            is("by 0", m.wears(0, 0), 7);
            is("by 1", m.wears(0, 1), 4);
            is("by 2", m.wears(0, 2), 3);
        });
        holds("WEARS: (0, if it is)", () -> is("worn", with(SOAP + ";part 0 grey 0 thin 9").wears(0, 0), 0));
    }

    private static void like() {
        holds("LIKE: none without an IMAGE", () -> {
            MoonWash m = new MoonWash();
            is("without", m.like(), NONE);
            m.image();
            is("with", m.like(), 8);
        });
        holds("LIKE: in how many PARTS LIGHT is as THE IMAGE has it: 0 to 8", () -> {
            MoonWash m = new MoonWash();
            m.image();
            for (int part = 0; part < 8; part++) {
                is("alike", m.like(), 8 - part);
                m.hang(part, false);
            }
            is("none", m.like(), 0);
        });
        holds("LIKE: LIGHT alone, be all else another", () -> {
            MoonWash m = with("part 0 grey 1 thin 0");
            m.image();
            house(m, "part 0 grey 0 thin 9 stains a");
            m.move(0, 7);
            is("like", m.like(), 8);
        });
        holds("LIKE: (by its own NIGHT, DAMP and LAW)", () -> {
            MoonWash m = with("", "shine 1 if night<1;shine 2 if damp<1");
            m.image();
            m.seed(Draws.seedWith(10, 5));
            m.nights(1);
            is("another night and damp", m.like(), 0);
            law(m, "shine 3");
            is("as bright by another law", m.like(), 8);
        });
    }

    private static void halves() {
        holds("HALVES: of several the least", () -> {
            is("all the same", new MoonWash().halves(), 0);
            is("none", only().halves(), 0);
        });
        holds("HALVES: as near as can be: 0 to 3", () -> {
            is("0", only(0, 4).halves(), 0);
            is("1", only(0, 1).halves(), 1);
            is("2", only(4, 5, 6, 7).halves(), 2);
            is("3", only(1, 2, 3, 4).halves(), 3);
        });
        holds("HALVES: (the MOON goes round): the other four begin at 4 more", () -> {
            is("6 to 1", only(6, 7, 0, 1).halves(), 0);
            is("5 to 0", only(5, 6, 7, 0).halves(), 3);
        });
        holds("HALVES: not even, but as near as can be", () -> {
            is("1 apart", with("part 0 grey 1 thin 0").halves(), 0);
            is("three of 9", only(0, 1, 2).halves(), 1);
        });
    }

    private static void trial() {
        holds("TRIAL of N NIGHTS (0 to 40): 0 is now", () -> {
            MoonWash m = with("thieves 100;wolves 100;part 0 grey 0 thin 0 stains ab");
            is("light", m.trial(0, false), 70);
            is("stains", m.trial(0, true), 2);
        });
        holds("TRIAL of N NIGHTS (0 to 40): 40", () -> {
            MoonWash m = with("", "shine 1 if night>39;shine 1 if night>40");
            is("40", m.trial(40, false), 80);
            is("39", m.trial(39, false), 72);
        });
        holds("TRIAL: draws, too: as NIGHTS from now", () -> {
            MoonWash m = rich();
            int light = m.trial(7, false);
            int stains = m.trial(7, true);
            m.nights(7);
            is("light", m.light(), light);
            is("stains", m.trial(0, true), stains);
        });
        holds("TRIAL: STAINS of all PARTS together: none, all", () -> {
            is("none", new MoonWash().trial(0, true), 0);
            is("all", with(greyAll(0).replace("thin 0", "thin 0 stains abcde")).trial(0, true), 40);
        });
        holds("TRIAL: nothing stays", () -> asks("trial", m -> m.trial(40, false)));
    }

    private static void span() {
        holds("SPAN: from SEED 1, 2, .. 6: 1 and 6 are of these", () -> {
            MoonWash m = with("", BY_DAMP);
            is("least: by 1", m.span(3, false), 8 * (9 + Draws.of(1, 7) % 10));
            is("greatest: by 6", m.span(3, true), 8 * (9 + Draws.of(6, 7) % 10));
            is("as told", m.span(3, false) * 1000 + m.span(3, true), 72144);
        });
        holds("SPAN: from SEED 1, 2, .. 6: 0 and 7 are not", () -> {
            MoonWash m = with("", BY_DAMP);
            is("0 would be greater", Draws.of(0, 73) % 10, 9);
            is("7 would be less", Draws.of(7, 73) % 10, 0);
            is("least", m.span(25, false), 88);
            is("greatest", m.span(25, true), 136);
        });
        holds("SPAN: of 0 NIGHTS, of 40", () -> {
            MoonWash m = with("", "shine 1 if night>39");
            is("now", m.span(0, false) * 1000 + m.span(0, true), 72072);
            is("40", m.span(40, false) * 1000 + m.span(40, true), 80080);
        });
        holds("SPAN: the least is 0, the greatest 160", () -> {
            is("0", only().span(3, false) + only().span(3, true), 0);
            is("160", with("", "shine 11").span(3, false) + with("", "shine 11").span(3, true), 320);
        });
        holds("SPAN: SEED as told is not looked at, and stays", () -> {
            MoonWash m = with("wolves 50;thieves 50");
            int least = m.span(20, false);
            m.seed(99);
            is("least", m.span(20, false), least);
            is("seed", m.seed(1), 99);
            asks("span", x -> x.span(40, true));
        });
    }

    private static void led() {
        holds("LED: how often a PART was WASHED: none, and 60 at most", () -> {
            MoonWash m = with("water 99;spring 20;" + SOAP);
            is("none", m.led(7, false), 0);
            for (int i = 0; i < 62; i++) {
                m.wash(7, 0);
                m.nights(1);
            }
            is("60", m.led(7, false), 60);
        });
        holds("LED: by THE LOG: what went from it is none", () -> {
            MoonWash m = with("water 99;spring 20;" + SOAP);
            m.wash(0, 0);
            for (int i = 0; i < 59; i++) {
                m.nights(1);
                m.wash(1, 0);
            }
            is("still there", m.led(0, false) * 10 + m.led(0, true), 10);
            m.wash(1, 0);
            is("gone", m.led(0, false), 0);
            is("gone", m.led(0, true), NONE);
        });
        holds("LED: the SOAP's number of the latest time (none)", () -> {
            MoonWash m = with(takes("", "", ""));
            is("none", m.led(0, true), NONE);
            m.wash(0, 2);
            m.wash(0, 1);
            m.wash(3, 0);
            is("latest", m.led(0, true), 1);
            m.drop(0);
            is("the number then", m.led(0, true), 1);
        });
    }
}
