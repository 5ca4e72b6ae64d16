/** THE HOUSE: what its texts may be at most, how they are cut, and the first wrong byte of each kind. */
public final class HouseEdgeTest extends Check {
    private static final String SOAP = "soap 1 water 1 rough 1";
    private static final String PART = "part 0 grey 1 thin 1";

    public static void main(String[] args) {
        texts();
        lines();
        numbers();
        kinds();
        words();
        blankBytes();
        emptyTexts();
        soapLine();
        partLine();
        otherLines();
        cannotStand();
        moreMustCome();
        tooMany();
        nothingStays();
        end("HouseEdgeTest");
    }

    private static void right(String text) {
        MoonWash m = new MoonWash();
        is("house '" + text + "'", house(m, text), 1);
        is("fault of '" + text + "'", m.fault(), NONE);
    }

    private static MoonWash twelve() {
        MoonWash m = new MoonWash();
        for (int i = 1; i <= 12; i++) {
            is("text " + i, house(m, "spring " + i), i);
        }
        return m;
    }

    private static void texts() {
        holds("texts (at most 12, one behind another): a twelfth", () -> {
            MoonWash m = twelve();
            is("texts", m.count(2), 12);
            is("the twelfth was read", m.count(7), 12);
        });
        holds("texts (at most 12): a thirteenth", () -> {
            MoonWash m = twelve();
            fails("a thirteenth", UnsupportedOperationException.class, x -> house(x, "spring 1"), m);
            is("fault", m.fault(), NONE);
            same("behind it", m, twelve());
        });
        holds("texts (at most 12): a thirteenth that has no LINE", () ->
                fails("a thirteenth", UnsupportedOperationException.class, x -> house(x, ""), twelve()));
        holds("a wrong text is none of the 12", () -> {
            MoonWash m = new MoonWash();
            for (int i = 0; i < 13; i++) {
                fails("wrong", IllegalArgumentException.class, x -> house(x, ";"), m);
            }
            for (int i = 1; i <= 12; i++) {
                is("right", house(m, ""), i);
            }
        });
        holds("one behind another: what an earlier text told stays", () -> {
            MoonWash m = with("water 7;" + SOAP);
            house(m, "spring 8;" + SOAP);
            is("water", m.count(6), 7);
            is("spring", m.count(7), 8);
            is("soaps", m.count(0), 2);
        });
    }

    private static void lines() {
        holds("THE HOUSE: LINE, at most 14: fourteen", () -> {
            MoonWash m = with(times(13, "spring 1") + ";water 77");
            is("the fourteenth was read", m.count(6), 77);
        });
        holds("THE HOUSE: LINE, at most 14: a fifteenth", () -> {
            wrongHouse(times(15, "spring 1"), 126);
            wrongHouse(times(14, "spring 1") + " ;  spring 1", 129);
        });
        holds("LINE { ; LINE }: of one LINE told twice the later holds", () -> {
            MoonWash m = with("spring 1;wind 0 1;spring 2;wind 0 2;part 0 grey 5 thin 5 stains a;part 0 grey 6 thin 4");
            is("spring", m.count(7), 2);
            is("wind", m.peg(0, false), 2);
            is("part", m.part(0, 0) * 100 + m.part(0, 1) * 10 + m.part(0, 3), 640);
        });
        holds("LINE { ; LINE }: without ; there is no other", () -> wrongHouse("spring 1 water 1", 9));
        holds("LINE { ; LINE }: no LINE ahead of ;", () -> wrongHouse(";spring 1", 0));
        holds("LINE { ; LINE }: no LINE between two ;", () -> wrongHouse("spring 1;;spring 1", 9));
        holds("LINE { ; LINE }: no LINE behind ;", () -> wrongHouse("spring 1;", 9));
    }

    private static void numbers() {
        holds("Numbers are of 1 to 3 digits: one", () -> is("spring", with("spring 4").count(7), 4));
        holds("Numbers are of 1 to 3 digits: three", () -> {
            is("spring", with("spring 004").count(7), 4);
            is("spring", with("spring 000").count(7), 0);
            is("wolves", with("wolves 100").count(8), 100);
        });
        holds("a number of more digits: its begin", () -> {
            wrongHouse("spring 0004", 7);
            wrongHouse("spring  0000", 8);
            wrongHouse("spring 4294967300", 7);
            wrongHouse("wind 0001 1", 5);
            wrongHouse("wind 1 0001", 7);
            wrongHouse("part 0000 grey 1 thin 1", 5);
            wrongHouse("soap 1 water 0001 rough 1", 13);
        });
        holds("a number out of its bounds: its begin, not where it gets too large", () -> {
            wrongHouse("spring 21", 7);
            wrongHouse("spring 999;x", 7);
            wrongHouse("soap 1 water 000 rough 1", 13);
        });
        holds("a number has no sign", () -> {
            wrongHouse("spring -1", 7);
            wrongHouse("spring +1", 7);
        });
        holds("a number is cut by a blank", () -> wrongHouse("wolves 1 0", 9));
        holds("digits are 0 to 9 alone", () -> {
            wrongHouse("spring /", 7);
            wrongHouse("spring :", 7);
            wrongHouse("spring 1/", 8);
            wrongHouse("spring 1:", 8);
            wrongHouse("spring \u00b2", 7);
            is("9", with("spring 09").count(7), 9);
        });
    }

    private static void kinds() {
        holds("K: a word of letters a to e: one", () -> is("takes", with(SOAP + " takes c").soap(0, 3), 4));
        holds("K: a word of letters a to e: five", () -> is("takes", with(SOAP + " takes ecabd").soap(0, 3), 31));
        holds("K: none twice: the begin of the word", () -> {
            wrongHouse(SOAP + " takes aa", 29);
            wrongHouse(SOAP + " takes  abcdea", 30);
            wrongHouse(PART + " stains ebce", 28);
        });
        holds("K: letters that are none such: the begin of the word", () -> {
            wrongHouse(SOAP + " takes abcdef", 29);
            wrongHouse(SOAP + " takes z", 29);
            wrongHouse(PART + " stains abx", 28);
        });
        holds("K: no word at all", () -> {
            wrongHouse(SOAP + " takes 1", 29);
            wrongHouse(SOAP + " takes;" + SOAP, 28);
            wrongHouse(SOAP + " takes A", 29);
            wrongHouse(PART + " stains ;", 28);
            wrongHouse(PART + " stains", 27);
        });
        holds("K: one word alone", () -> {
            wrongHouse(SOAP + " takes a b", 31);
            wrongHouse(PART + " stains a bc", 30);
            wrongHouse(SOAP + " takes aB", 30);
        });
    }

    private static void words() {
        holds("Words are as long as a to z go on: letters cling to them", () -> {
            wrongHouse("springs 1", 0);
            wrongHouse("sprin 1", 0);
            wrongHouse("aspring 1", 0);
            wrongHouse("springa 1", 0);
            wrongHouse("springz 1", 0);
            wrongHouse("zspring 1", 0);
            wrongHouse("spring 1;springspring 1", 9);
            wrongHouse("part 0 greya 1 thin 1", 7);
            wrongHouse(SOAP + " takesab", 23);
        });
        holds("Words are as long as a to z go on: digits and signs do not cling", () -> {
            right("spring1;water2");
            right("soap1water1rough1takes abc");
            right("part0grey1thin1stains e");
            right("wind0 1");
            right("due0light1");
        });
        holds("a to z: signs next to them are none", () -> {
            wrongHouse("spring` 1", 6);
            wrongHouse("spring{ 1", 6);
            wrongHouse("`spring 1", 0);
            wrongHouse("{spring 1", 0);
        });
        holds("words are of small letters alone", () -> {
            wrongHouse("Spring 1", 0);
            wrongHouse("sprinG 1", 0);
            wrongHouse("SPRING 1", 0);
        });
        holds("a word is cut by a blank", () -> wrongHouse("spr ing 1", 0));
    }

    private static void blankBytes() {
        holds("between all there may be blanks (32), also ahead and behind", () -> {
            MoonWash m = with("   soap  2   water 3    rough 1  takes   ab  ;  spring    4  ");
            is("soap", m.soap(0, 0) * 1000 + m.soap(0, 1) * 100 + m.soap(0, 2) * 10 + m.soap(0, 3), 2313);
            is("spring", m.count(7), 4);
        });
        holds("blanks are 32 alone", () -> {
            for (int other : new int[] {0, 1, 9, 10, 13, 31, 33, 127, 160, 255}) {
                String sign = String.valueOf((char) other);
                wrongHouse("spring" + sign + "1", 6);
                wrongHouse(sign + "spring 1", 0);
                wrongHouse("spring 1" + sign, 8);
            }
        });
        holds("400 bytes: blanks up to the last LINE", () -> {
            MoonWash m = with(blanks(392) + "spring 7");
            is("spring", m.count(7), 7);
        });
    }

    private static void emptyTexts() {
        holds("A text that is empty has no LINE", () -> {
            MoonWash m = rich();
            is("house", house(m, ""), 2);
            is("fault", m.fault(), NONE);
        });
        holds("A text of blanks alone has no LINE", () -> {
            for (int n : new int[] {1, 2, 399, 400}) {
                right(blanks(n));
            }
        });
        holds("A text that has no LINE changes but the texts and what can be undone", () -> {
            MoonWash m = with("spring 3;" + SOAP);
            m.image();
            house(m, " ");
            is("texts", m.count(2), 2);
            m.back();
            same("behind it", m, withImage("spring 3;" + SOAP));
        });
    }

    private static MoonWash withImage(String text) {
        MoonWash m = with(text);
        m.image();
        return m;
    }

    private static void soapLine() {
        holds("soap N water N rough N [ takes K ]: in this order", () -> {
            wrongHouse("soap water 1 rough 1", 5);
            wrongHouse("soap 1 1 rough 1", 7);
            wrongHouse("soap 1 rough 1 water 1", 7);
            wrongHouse("soap 1 water rough 1", 13);
            wrongHouse("soap 1 water 1 takes a", 15);
            wrongHouse("soap 1 water 1 1", 15);
            wrongHouse("soap 1 water 1 rough takes a", 21);
            wrongHouse(SOAP + " a", 23);
            wrongHouse(SOAP + " takes a takes b", 31);
            wrongHouse(SOAP + " stains a", 23);
        });
        holds("soap N water N rough N [ takes K ]: more must come", () -> {
            wrongHouse("soap", 4);
            wrongHouse("soap 1", 6);
            wrongHouse("soap 1 water", 12);
            wrongHouse("soap 1 water 1", 14);
            wrongHouse("soap 1 water 1 rough", 20);
            wrongHouse(SOAP + " takes", 28);
            wrongHouse(SOAP + " takes  ", 30);
        });
    }

    private static void partLine() {
        holds("part P grey N thin N [ stains K ]: in this order", () -> {
            wrongHouse("part grey 1 thin 1", 5);
            wrongHouse("part 0 thin 1 grey 1", 7);
            wrongHouse("part 0 grey thin 1", 12);
            wrongHouse("part 0 grey 1 1", 14);
            wrongHouse("part 0 grey 1 stains a", 14);
            wrongHouse("part 0 grey 1 thin stains a", 19);
            wrongHouse(PART + " a", 21);
            wrongHouse(PART + " takes a", 21);
            wrongHouse(PART + " wet 1", 21);
        });
        holds("part P grey N thin N [ stains K ]: more must come", () -> {
            wrongHouse("part", 4);
            wrongHouse("part 0", 6);
            wrongHouse("part 0 grey", 11);
            wrongHouse("part 0 grey 1", 13);
            wrongHouse("part 0 grey 1 thin", 18);
        });
        holds("part: GREY, THIN and all STAINS are told", () -> {
            MoonWash m = with("part 2 grey 9 thin 8 stains abc");
            house(m, "part 2 grey 0 thin 0 stains d");
            is("as told", m.part(2, 0) * 100 + m.part(2, 1) * 10 + m.part(2, 3), 8);
            house(m, "part 2 grey 1 thin 2");
            is("no stains are told", m.part(2, 0) * 100 + m.part(2, 1) * 10 + m.part(2, 3), 120);
        });
        holds("part: WET, HUNG and PEG are not told", () -> {
            MoonWash m = with(SOAP);
            m.wash(2, 0);
            m.move(2, 6);
            house(m, "part 2 grey 3 thin 3");
            is("wet", m.part(2, 2), 9);
            is("hung", m.part(2, 4), 0);
            is("peg", m.part(2, 5), 6);
        });
    }

    private static void otherLines() {
        holds("wind G N", () -> {
            wrongHouse("wind", 4);
            wrongHouse("wind 1", 6);
            wrongHouse("wind 1;", 6);
            wrongHouse("wind 1 1 1", 9);
            wrongHouse("wind a 1", 5);
        });
        holds("due N light N", () -> {
            wrongHouse("due", 3);
            wrongHouse("due 1", 5);
            wrongHouse("due 1 1", 6);
            wrongHouse("due 1 light", 11);
            wrongHouse("due light 1", 4);
            wrongHouse("due 1 light 1 1", 14);
        });
        holds("spring N | water N | wolves N | thieves N", () -> {
            for (String word : new String[] {"spring", "water", "wolves", "thieves"}) {
                int n = word.length();
                right(word + " 0");
                wrongHouse(word, n);
                wrongHouse(word + " ", n + 1);
                wrongHouse(word + ";", n);
                wrongHouse(word + " a", n + 1);
                wrongHouse(word + " 1 1", n + 3);
            }
        });
    }

    private static void cannotStand() {
        holds("a word that is none", () -> {
            wrongHouse("moon 1", 0);
            wrongHouse("spring 1; x", 10);
            wrongHouse("spring x", 7);
        });
        holds("words that cannot begin a LINE of THE HOUSE", () -> {
            for (String word : "rough takes grey thin stains light wet hung full shine dull dry soil if not or and damp night a".split(" ")) {
                wrongHouse(word + " 1", 0);
            }
        });
        holds("signs that cannot stand in THE HOUSE", () -> {
            for (String sign : "( ) + < > , . - # \" 1".split(" ")) {
                wrongHouse(sign, 0);
                wrongHouse("spring 1" + " " + sign, 9);
            }
        });
        holds("the first thing alone is told", () -> {
            wrongHouse("spring 21;soap 99;x", 7);
            wrongHouse("x;spring 21", 0);
        });
        holds("the last byte of 400", () -> {
            wrongHouse("spring 7" + blanks(391) + "x", 399);
            wrongHouse(blanks(399) + ";", 399);
        });
        holds("400 bytes that are a thing each", () -> {
            wrongHouse(";".repeat(400), 0);
            wrongHouse("#".repeat(400), 0);
            wrongHouse("spring1" + ";".repeat(393), 8);
        });
    }

    private static void moreMustCome() {
        holds("the text's length, if more must come: with blanks behind", () -> {
            wrongHouse("spring 1;  ", 11);
            wrongHouse("spring   ", 9);
        });
        holds("the text's length, if more must come: at 400 bytes", () -> {
            wrongHouse("spring" + blanks(394), 400);
            wrongHouse(blanks(394) + "spring", 400);
            wrongHouse(blanks(390) + "spring 1;;".substring(0, 9) + " ", 400);
        });
        holds("the text's length, if more must come: the TAPE's behind it is none of it", () -> {
            MoonWash m = new MoonWash();
            Tape.put(m, "spring 12");
            m.end(7);
            fails("cut to 'spring '", IllegalArgumentException.class, MoonWash::house, m);
            is("fault", m.fault(), 7);
        });
    }

    private static void tooMany() {
        holds("of a LINE too many, the first word", () -> {
            wrongHouse(times(14, "spring 1") + ";   spring 99", 129);
            wrongHouse(times(14, "spring 1") + ";soap 10", 126);
        });
        holds("of a LINE too many: ahead of its word the ; can stand", () -> wrongHouse(times(14, "spring 1") + "; ", 127));
        holds("of a SOAP too many, the first word", () -> {
            wrongHouse("", times(6, SOAP) + ";  soap 99", 140);
            wrongHouse(times(6, SOAP), "spring 1; soap", 10);
        });
        holds("of a DUE too many, the first word", () -> {
            wrongHouse("", times(8, "due 1 light 1") + ";  due 1000", 114);
            wrongHouse(times(8, "due 1 light 1"), "spring 1; due", 10);
        });
        holds("of a SOAP, a DUE too many: other LINES may stand", () -> {
            MoonWash m = with(times(6, SOAP) + ";" + times(8, "due 1 light 1"));
            is("a text without them", house(m, "spring 9;" + PART + ";water 1"), 2);
            is("spring", m.count(7), 9);
        });
    }

    private static void nothingStays() {
        holds("Of a wrong text nothing stays: each LINE ahead of the wrong one", () -> {
            for (String line : new String[] {SOAP, "part 1 grey 9 thin 9 stains b", "wind 0 9", "due 3 light 3", "spring 9", "water 9",
                "wolves 99", "thieves 99"}) {
                wrongHouse(line + ";x", line.length() + 1);
            }
        });
        holds("Of a wrong text nothing stays: the LINE that is wrong", () -> {
            wrongHouse("part 1 grey 9 thin 10", 19);
            wrongHouse("part 1 grey 9 thin 9 stains bf", 28);
            wrongHouse("soap 9 water 30 rough 3 takes aa", 30);
            wrongHouse("wind 0 9 9", 9);
            wrongHouse("due 3 light 3 3", 14);
        });
        holds("Of a wrong text nothing stays: nor comes with the next", () -> {
            MoonWash m = rich();
            Tape.put(m, SOAP + ";wind 7 9;due 1 light 1;x");
            fails("wrong", IllegalArgumentException.class, MoonWash::house, m);
            house(m, "spring 9");
            MoonWash twin = rich();
            house(twin, "spring 9");
            same("behind the next", m, twin);
        });
        holds("Of a wrong text nothing stays: nor in THE IMAGE, a TRIAL, what is UNDONE", () -> {
            MoonWash m = rich();
            Tape.put(m, "wolves 100;water 99;wind 1 9;x");
            fails("wrong", IllegalArgumentException.class, MoonWash::house, m);
            MoonWash twin = rich();
            is("trial", m.trial(9, true), twin.trial(9, true));
            m.undo();
            twin.undo();
            is("undone", m.count(6), twin.count(6));
            m.back();
            twin.back();
            is("back", m.count(8), twin.count(8));
        });
    }
}
