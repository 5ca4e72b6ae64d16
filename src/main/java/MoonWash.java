import java.util.NoSuchElementException;

/** A laundry in which the moon is washed; the document tells what each call promises. */
public final class MoonWash {
    public static final int NONE = -1;

    private static final int PARTS = 8;
    private static final int ALL_PARTS = 255;
    private static final int KINDS = 5;
    private static final int SETS = 32;
    private static final int MOST_BYTES = 400;
    private static final int FED_BYTES = 20;
    private static final int MOST_TRIED_BYTES = 40;
    private static final int MOST_TEXTS = 12;
    private static final int MOST_SOAPS = 6;
    private static final int SOAP_ROW = 4;
    private static final int MOST_DUES = 8;
    private static final int DUE_ROW = 2;
    private static final int MOST_LOGGED = 60;
    private static final int LOG_ROW = 4;
    private static final int MOST_UNDONE = 12;
    private static final int MOST_NIGHTS = 60;
    private static final int MOST_AHEAD = 40;
    private static final int MOST_LIGHT = 160;
    private static final int MOST_WATER = 99;
    private static final int MOST_DAMP = 9;
    private static final int NINE = 9;
    private static final int DARN_WATER = 2;
    private static final int DARN_THIN = 3;
    private static final int SPAN_SEEDS = 6;

    private final int[] tape = new int[MOST_BYTES];
    private int tapeSize;
    private int firstWrong = NONE;
    private Laundry now = new Laundry();
    private Laundry spare = new Laundry();
    private Law law = new Law();
    private Law spareLaw = new Law();
    private final Words words = new Words();
    private final Past past = new Past();
    private final Image kept = new Image();
    private final Moon guess = new Moon();
    private final WaterPlan waterPlan = new WaterPlan();
    private final PegPlan pegPlan = new PegPlan();

    public MoonWash() {
    }

    // ---- the tape and the texts

    public int feed(int a, int b, int c, int d, int e) {
        if (tapeSize > MOST_BYTES - FED_BYTES) {
            return NONE;
        }
        feedNumber(a);
        feedNumber(b);
        feedNumber(c);
        feedNumber(d);
        feedNumber(e);
        return tapeSize;
    }

    private void feedNumber(int number) {
        for (int shift = 24; shift >= 0; shift -= 8) {
            if (tapeSize < MOST_BYTES) {
                tape[tapeSize] = number >> shift & 255;
                tapeSize++;
            }
        }
    }

    public boolean end(int n) {
        if (n < 0 || n > tapeSize) {
            return false;
        }
        tapeSize = n;
        return true;
    }

    public int house() throws IllegalArgumentException, UnsupportedOperationException {
        cutTape();
        spare.become(now);
        HouseText.read(words, spare);
        checkText();
        if (now.texts >= MOST_TEXTS) {
            throw new UnsupportedOperationException();
        }
        Laundry before = now;
        now = spare;
        spare = before;
        now.texts++;
        past.forget();
        return now.texts;
    }

    public int law() throws IllegalArgumentException {
        cutTape();
        LawText.read(words, spareLaw);
        checkText();
        Law before = law;
        law = spareLaw;
        spareLaw = before;
        past.forget();
        return law.lines;
    }

    private void cutTape() {
        words.cut(tape, tapeSize);
        tapeSize = 0;
    }

    private void checkText() {
        firstWrong = words.wrong;
        if (firstWrong != NONE) {
            throw new IllegalArgumentException();
        }
    }

    public int fault() {
        return firstWrong;
    }

    // ---- what there is

    public int part(int part, int what) throws IndexOutOfBoundsException, NoSuchElementException {
        checkPart(part);
        Moon moon = now.moon;
        switch (what) {
            case 0: return moon.grey[part];
            case 1: return moon.thin[part];
            case 2: return moon.wet[part];
            case 3: return moon.stains[part];
            case 4: return moon.isHung(part) ? 1 : 0;
            case 5: return moon.pegOf[part];
            case 6: return law.lightOf(moon, part);
            case 7: return law.whiteOf(moon, part);
            case 8: return law.driesBy(moon, part);
            case 9: return shareOf(part);
            case 10: return moon.stains[part] & ~now.takenByAny();
            default: throw new NoSuchElementException();
        }
    }

    private int shareOf(int part) {
        int all = law.allLight(now.moon);
        return all == 0 ? 0 : law.lightOf(now.moon, part) * 100 / all;
    }

    public int soap(int soap, int what) throws IndexOutOfBoundsException, NoSuchElementException {
        checkSoap(soap);
        switch (what) {
            case 0: return now.strength(soap);
            case 1: return now.price(soap);
            case 2: return now.rough(soap);
            case 3: return now.takes(soap);
            default: throw new NoSuchElementException();
        }
    }

    public int peg(int peg, boolean part) throws IndexOutOfBoundsException {
        checkPart(peg);
        return part ? now.moon.partAt(peg) : now.moon.wind[peg];
    }

    public int due(int k, boolean light) throws IndexOutOfBoundsException {
        if (k < 0 || k >= now.dueCount) {
            throw new IndexOutOfBoundsException();
        }
        return light ? now.dueLight(k) : now.dueNight(k);
    }

    // There are as many pegs as parts, so this looks at both.
    private static void checkPart(int part) {
        if (part < 0 || part >= PARTS) {
            throw new IndexOutOfBoundsException();
        }
    }

    private void checkSoap(int soap) {
        if (soap < 0 || soap >= now.soapCount) {
            throw new IndexOutOfBoundsException();
        }
    }

    private static void checkNumber(int number, int least, int most) {
        if (number < least || number > most) {
            throw new IllegalArgumentException();
        }
    }

    // ---- acts

    public int wash(int part, int soap) throws IndexOutOfBoundsException, IllegalStateException {
        checkPart(part);
        checkSoap(soap);
        if (now.water < now.price(soap)) {
            throw new IllegalStateException();
        }
        past.keep(now);
        now.water -= now.price(soap);
        int out = now.moon.scrub(part, now.strength(soap), now.rough(soap), now.takes(soap));
        now.addLog(part, soap, out);
        return out;
    }

    public boolean hang(int part, boolean hung) throws IndexOutOfBoundsException {
        checkPart(part);
        past.keep(now);
        boolean changes = now.moon.isHung(part) != hung;
        now.moon.setHung(part, hung);
        return changes;
    }

    public int darn(int part) throws IndexOutOfBoundsException, IllegalStateException {
        checkPart(part);
        if (now.water < DARN_WATER) {
            throw new IllegalStateException();
        }
        past.keep(now);
        now.water -= DARN_WATER;
        now.moon.thin[part] = Math.max(0, now.moon.thin[part] - DARN_THIN);
        return now.moon.thin[part];
    }

    public int move(int part, int peg) throws IndexOutOfBoundsException {
        checkPart(part);
        checkPart(peg);
        past.keep(now);
        int other = now.moon.partAt(peg);
        now.moon.pegOf[other] = now.moon.pegOf[part];
        now.moon.pegOf[part] = peg;
        return other;
    }

    public int drop(int soap) throws IndexOutOfBoundsException {
        checkSoap(soap);
        past.keep(now);
        now.removeSoap(soap);
        return now.soapCount;
    }

    public int nights(int n) throws IllegalArgumentException {
        checkNumber(n, 1, MOST_NIGHTS);
        past.keep(now);
        int dried = 0;
        for (int i = 0; i < n; i++) {
            dried += now.oneNight(law);
        }
        return dried;
    }

    public int seed(int n) {
        int before = now.seed;
        now.seed = n;
        return before;
    }

    public boolean undo() {
        return past.giveBack(now);
    }

    public void image() {
        kept.keep(now, law);
    }

    public boolean back() {
        if (!kept.taken) {
            return false;
        }
        now.become(kept.laundry);
        law.become(kept.law);
        past.forget();
        return true;
    }

    // ---- light

    public int shines() {
        int shining = 0;
        for (int part = 0; part < PARTS; part++) {
            if (law.lightOf(now.moon, part) > 0) {
                shining |= 1 << part;
            }
        }
        return shining;
    }

    public int light() {
        return law.allLight(now.moon);
    }

    public int row() {
        int shining = shines();
        int longest = 0;
        int length = 0;
        // Twice around, so that a row over 7 and 0 is seen whole.
        for (int i = 0; i < 2 * PARTS; i++) {
            length = (shining >> i % PARTS & 1) == 1 ? length + 1 : 0;
            longest = Math.max(longest, length);
        }
        return Math.min(longest, PARTS);
    }

    public int darkest() {
        int found = 0;
        int least = law.lightOf(now.moon, 0);
        for (int part = 1; part < PARTS; part++) {
            int its = law.lightOf(now.moon, part);
            if (its < least) {
                least = its;
                found = part;
            }
        }
        return found;
    }

    public int halves() {
        int all = law.allLight(now.moon);
        int found = 0;
        int nearest = MOST_LIGHT + 1;
        for (int k = 0; k < PARTS; k++) {
            int half = 0;
            for (int i = 0; i < PARTS / 2; i++) {
                half += law.lightOf(now.moon, (k + i) % PARTS);
            }
            int apart = Math.abs(2 * half - all);
            if (apart < nearest) {
                nearest = apart;
                found = k;
            }
        }
        return found;
    }

    public int like() {
        if (!kept.taken) {
            return NONE;
        }
        int alike = 0;
        for (int part = 0; part < PARTS; part++) {
            if (law.lightOf(now.moon, part) == kept.shone[part]) {
                alike++;
            }
        }
        return alike;
    }

    // ---- soaps

    public int would(int part, int soap) throws IndexOutOfBoundsException {
        checkPart(part);
        checkSoap(soap);
        return whiteIfWashed(part, soap);
    }

    /** WHITE of a part as if it hung and were not wet; washed before, but for soap NONE. */
    private int whiteIfWashed(int part, int soap) {
        guess.become(now.moon);
        if (soap >= 0 && soap < now.soapCount) {
            guess.scrub(part, now.strength(soap), now.rough(soap), now.takes(soap));
        }
        guess.wet[part] = 0;
        guess.setHung(part, true);
        return law.whiteOf(guess, part);
    }

    public int best(int part) throws IndexOutOfBoundsException {
        checkPart(part);
        int found = NONE;
        int most = 0;
        int price = 0;
        for (int soap = 0; soap < now.soapCount; soap++) {
            int white = whiteIfWashed(part, soap);
            boolean better = white > most || white == most && now.price(soap) < price;
            if (found == NONE || better) {
                found = soap;
                most = white;
                price = now.price(soap);
            }
        }
        return found;
    }

    public int least(int light, int part) throws IndexOutOfBoundsException, IllegalArgumentException {
        if (part != NONE) {
            checkPart(part);
        }
        checkNumber(light, 0, MOST_LIGHT);
        waterPlan.begin(now);
        for (int each = 0; each < PARTS; each++) {
            for (int soap = NONE; soap < now.soapCount; soap++) {
                waterPlan.tell(each, soap, whiteIfWashed(each, soap));
            }
        }
        waterPlan.fill(light);
        return part == NONE ? waterPlan.leastWater(light) : waterPlan.soapOf(part, light);
    }

    public int soaps(int part) throws IndexOutOfBoundsException {
        checkPart(part);
        int wanted = now.moon.stains[part] & now.takenByAny();
        int found = 0;
        int fewest = MOST_SOAPS + 1;
        for (int set = 0; set < 1 << now.soapCount; set++) {
            boolean takesAll = (wanted & ~now.takenBy(set)) == 0;
            if (takesAll && Integer.bitCount(set) < fewest) {
                fewest = Integer.bitCount(set);
                found = set;
            }
        }
        return found;
    }

    public int washes(int part, int soap) throws IndexOutOfBoundsException {
        checkPart(part);
        checkSoap(soap);
        int grey = now.moon.grey[part];
        int strength = now.strength(soap);
        if (grey == 0) {
            return 0;
        }
        return strength <= 0 ? NONE : (grey + strength - 1) / strength;
    }

    public int wears(int part, int soap) throws IndexOutOfBoundsException {
        checkPart(part);
        checkSoap(soap);
        int wear = 1 + now.rough(soap);
        return wear <= 0 ? 0 : (NINE - now.moon.thin[part] + wear - 1) / wear;
    }

    public int stained(boolean sure) throws IllegalArgumentException {
        int fitting = setsThatFit();
        if (!sure) {
            return Integer.bitCount(fitting);
        }
        if (fitting == 0) {
            return 0;
        }
        int inAll = SETS - 1;
        for (int set = 0; set < SETS; set++) {
            if ((fitting >>> set & 1) == 1) {
                inAll &= set;
            }
        }
        return inAll;
    }

    public int tries() throws IllegalArgumentException {
        int fitting = setsThatFit();
        int all = Integer.bitCount(fitting);
        if (all < 2) {
            return NONE;
        }
        int found = NONE;
        int least = SETS + 1;
        for (int soap = 0; soap < now.soapCount; soap++) {
            int left = Integer.bitCount(fitting & setsLeftBy(now.takes(soap)));
            int greater = Math.max(left, all - left);
            if (greater < least) {
                least = greater;
                found = soap;
            }
        }
        return found;
    }

    /** The sets of kinds that fit what the tape tells, each set a bit by its number. */
    private int setsThatFit() {
        int size = tapeSize;
        tapeSize = 0;
        if (size > MOST_TRIED_BYTES || size % 2 != 0) {
            throw new IllegalArgumentException();
        }
        int fitting = -1;
        for (int i = 0; i + 1 < size; i += 2) {
            int soap = tape[i];
            int left = tape[i + 1];
            if (soap >= now.soapCount || left > 1) {
                throw new IllegalArgumentException();
            }
            int sets = setsLeftBy(now.takes(soap));
            fitting &= left == 1 ? sets : ~sets;
        }
        return fitting;
    }

    private static int setsLeftBy(int takes) {
        int sets = 0;
        for (int set = 0; set < SETS; set++) {
            if ((set & ~takes) != 0) {
                sets |= 1 << set;
            }
        }
        return sets;
    }

    // ---- the nights to come

    public int soonest(int damp, int part) throws IndexOutOfBoundsException, IllegalArgumentException {
        if (part != NONE) {
            checkPart(part);
        }
        checkNumber(damp, 0, MOST_DAMP);
        for (int each = 0; each < PARTS; each++) {
            for (int peg = 0; peg < PARTS; peg++) {
                pegPlan.tell(each, peg, nightsOnPeg(each, peg, damp));
            }
        }
        pegPlan.fill();
        return part == NONE ? pegPlan.leastNights() : pegPlan.pegOfPart(part);
    }

    private int nightsOnPeg(int part, int peg, int damp) {
        if (!now.moon.isHung(part)) {
            return 0;
        }
        // The law sees a peg by its wind alone: pegs of one wind need no second guess.
        for (int same = 0; same < peg; same++) {
            if (now.moon.wind[same] == now.moon.wind[peg]) {
                return pegPlan.nightsOn[part][same];
            }
        }
        guess.become(now.moon);
        guess.pegOf[part] = peg;
        return guess.nightsTillDry(law, part, damp);
    }

    public int dried(int part, int damp) throws IndexOutOfBoundsException, IllegalArgumentException {
        checkPart(part);
        checkNumber(damp, 0, MOST_DAMP);
        guess.become(now.moon);
        int found = guess.nightsTillDry(law, part, damp);
        return found > MOST_AHEAD ? NONE : found;
    }

    public int ahead(int part, int n, int damp, int what)
            throws IndexOutOfBoundsException, IllegalArgumentException, NoSuchElementException {
        checkPart(part);
        checkNumber(n, 0, MOST_AHEAD);
        checkNumber(damp, 0, MOST_DAMP);
        if (what < 0 || what > 2) {
            throw new NoSuchElementException();
        }
        guess.become(now.moon);
        for (int i = 0; i < n; i++) {
            guess.goAhead(law, damp);
        }
        if (what == 0) {
            return guess.wet[part];
        }
        return what == 1 ? guess.grey[part] : law.lightOf(guess, part);
    }

    public int tide(int light, int damp) throws IllegalArgumentException {
        checkNumber(light, 0, MOST_LIGHT);
        checkNumber(damp, 0, MOST_DAMP);
        guess.become(now.moon);
        for (int n = 0; n <= MOST_AHEAD; n++) {
            if (law.allLight(guess) >= light) {
                return n;
            }
            guess.goAhead(law, damp);
        }
        return NONE;
    }

    public int late(int damp) throws IllegalArgumentException {
        checkNumber(damp, 0, MOST_DAMP);
        guess.become(now.moon);
        int found = 0;
        for (int n = 0; n <= MOST_AHEAD; n++) {
            found |= duesNotMet();
            guess.goAhead(law, damp);
        }
        return found;
    }

    /** The dues of the guessed night for which the guessed light is less. */
    private int duesNotMet() {
        int found = 0;
        for (int k = 0; k < now.dueCount; k++) {
            if (now.dueNight(k) == guess.night && law.allLight(guess) < now.dueLight(k)) {
                found |= 1 << k;
            }
        }
        return found;
    }

    public int enough(int water) throws IllegalArgumentException {
        checkNumber(water, 0, MOST_WATER);
        for (int n = 0; n <= MOST_WATER; n++) {
            if (now.water + n * now.spring >= water) {
                return n;
            }
        }
        return NONE;
    }

    public int trial(int n, boolean stains) throws IllegalArgumentException {
        checkNumber(n, 0, MOST_AHEAD);
        tryNights(n, now.seed);
        return stains ? spare.moon.allStains() : law.allLight(spare.moon);
    }

    public int span(int n, boolean most) throws IllegalArgumentException {
        checkNumber(n, 0, MOST_AHEAD);
        int found = most ? 0 : MOST_LIGHT;
        for (int seed = 1; seed <= SPAN_SEEDS; seed++) {
            tryNights(n, seed);
            int shone = law.allLight(spare.moon);
            found = most ? Math.max(found, shone) : Math.min(found, shone);
        }
        return found;
    }

    private void tryNights(int n, int seed) {
        spare.become(now);
        spare.seed = seed;
        for (int i = 0; i < n; i++) {
            spare.oneNight(law);
        }
    }

    // ---- the line, the log, the counts

    public int watch() {
        int wanted = 0;
        for (int part = 0; part < PARTS; part++) {
            if (now.moon.isHung(part)) {
                wanted |= 1 << now.moon.pegOf[part];
            }
        }
        int found = ALL_PARTS;
        for (int pegs = 0; pegs <= ALL_PARTS; pegs++) {
            int watched = pegs | pegs << 1 | pegs >> 1;
            if ((wanted & ~watched) == 0 && Integer.bitCount(pegs) < Integer.bitCount(found)) {
                found = pegs;
            }
        }
        return found;
    }

    public int led(int part, boolean soap) throws IndexOutOfBoundsException {
        checkPart(part);
        int often = 0;
        int latest = NONE;
        for (int ago = now.logSize() - 1; ago >= 0; ago--) {
            if (now.logged(ago, 1) == part) {
                often++;
                latest = now.logged(ago, 2);
            }
        }
        return soap ? latest : often;
    }

    public int log(int ago, int what) throws NoSuchElementException {
        if (what < 0 || what >= LOG_ROW) {
            throw new NoSuchElementException();
        }
        if (ago < 0 || ago >= now.logSize()) {
            return NONE;
        }
        return now.logged(ago, what);
    }

    public int count(int what) {
        switch (what) {
            case 0: return now.soapCount;
            case 1: return now.dueCount;
            case 2: return now.texts;
            case 3: return law.lines;
            case 4: return now.moon.night;
            case 5: return now.moon.damp;
            case 6: return now.water;
            case 7: return now.spring;
            case 8: return now.wolves;
            case 9: return now.thieves;
            case 10: return now.moon.hung;
            case 11: return now.moon.wetParts();
            case 12: return now.logSize();
            case 13: return past.size;
            default: return NONE;
        }
    }

    /** The parts and all that the law sees of them, apart from the rest, so that a guess is a small copy. */
    private static final class Moon {
        final int[] grey = new int[PARTS];
        final int[] thin = new int[PARTS];
        final int[] wet = new int[PARTS];
        final int[] stains = new int[PARTS];
        final int[] pegOf = new int[PARTS];
        final int[] wind = new int[PARTS];
        int hung = ALL_PARTS;
        int night;
        int damp;

        Moon() {
            for (int i = 0; i < PARTS; i++) {
                pegOf[i] = i;
                wind[i] = 3;
            }
        }

        void become(Moon other) {
            System.arraycopy(other.grey, 0, grey, 0, PARTS);
            System.arraycopy(other.thin, 0, thin, 0, PARTS);
            System.arraycopy(other.wet, 0, wet, 0, PARTS);
            System.arraycopy(other.stains, 0, stains, 0, PARTS);
            System.arraycopy(other.pegOf, 0, pegOf, 0, PARTS);
            System.arraycopy(other.wind, 0, wind, 0, PARTS);
            hung = other.hung;
            night = other.night;
            damp = other.damp;
        }

        boolean isHung(int part) {
            return (hung >> part & 1) == 1;
        }

        void setHung(int part, boolean up) {
            int bit = 1 << part;
            hung = up ? hung | bit : hung & ~bit;
        }

        int partAt(int peg) {
            for (int part = 0; part < PARTS; part++) {
                if (pegOf[part] == peg) {
                    return part;
                }
            }
            return 0;
        }

        int wetParts() {
            int found = 0;
            for (int part = 0; part < PARTS; part++) {
                if (wet[part] > 0) {
                    found |= 1 << part;
                }
            }
            return found;
        }

        int allStains() {
            int sum = 0;
            for (int part = 0; part < PARTS; part++) {
                sum += Integer.bitCount(stains[part]);
            }
            return sum;
        }

        /** Washes a part: the stains that came out. */
        int scrub(int part, int strength, int rough, int takes) {
            int out = stains[part] & takes;
            grey[part] = Math.max(0, grey[part] - strength);
            stains[part] &= ~takes;
            thin[part] = Math.min(NINE, thin[part] + 1 + rough);
            wet[part] = NINE;
            setHung(part, false);
            return out;
        }

        /** What a night's air does to the parts that hang: how many got dry. */
        int air(Law law) {
            int dried = 0;
            for (int part = 0; part < PARTS; part++) {
                if (!isHung(part)) {
                    continue;
                }
                if (wet[part] > 0) {
                    wet[part] = Math.max(0, wet[part] - law.driesBy(this, part));
                    dried += wet[part] == 0 ? 1 : 0;
                } else {
                    grey[part] = Math.min(NINE, grey[part] + law.soilsBy(this, part));
                }
            }
            return dried;
        }

        void goAhead(Law law, int toldDamp) {
            damp = toldDamp;
            air(law);
            night++;
        }

        /** Goes ahead with one part alone till it is dry: how many nights; more than MOST_AHEAD if it never is. */
        int nightsTillDry(Law law, int part, int toldDamp) {
            if (wet[part] == 0) {
                return 0;
            }
            if (!isHung(part)) {
                return MOST_AHEAD + 1;
            }
            damp = toldDamp;
            for (int n = 1; n <= MOST_AHEAD; n++) {
                wet[part] = Math.max(0, wet[part] - law.driesBy(this, part));
                night++;
                if (wet[part] == 0) {
                    return n;
                }
            }
            return MOST_AHEAD + 1;
        }
    }

    /** All that acts change and an undoing brings again: the moon, soaps, trough, dues, draws, the log. */
    private static final class Laundry {
        final Moon moon = new Moon();
        final int[] soapRows = new int[MOST_SOAPS * SOAP_ROW];
        int soapCount;
        final int[] dueRows = new int[MOST_DUES * DUE_ROW];
        int dueCount;
        int texts;
        int water = 30;
        int spring = 5;
        int wolves;
        int thieves;
        int seed = 1;
        final int[] logRows = new int[MOST_LOGGED * LOG_ROW];
        int logTotal;

        void become(Laundry other) {
            moon.become(other.moon);
            System.arraycopy(other.soapRows, 0, soapRows, 0, soapRows.length);
            soapCount = other.soapCount;
            System.arraycopy(other.dueRows, 0, dueRows, 0, dueRows.length);
            dueCount = other.dueCount;
            texts = other.texts;
            water = other.water;
            spring = other.spring;
            wolves = other.wolves;
            thieves = other.thieves;
            seed = other.seed;
            System.arraycopy(other.logRows, 0, logRows, 0, logRows.length);
            logTotal = other.logTotal;
        }

        int strength(int soap) {
            return soapRows[soap * SOAP_ROW];
        }

        int price(int soap) {
            return soapRows[soap * SOAP_ROW + 1];
        }

        int rough(int soap) {
            return soapRows[soap * SOAP_ROW + 2];
        }

        int takes(int soap) {
            return soapRows[soap * SOAP_ROW + 3];
        }

        int takenBy(int soapSet) {
            int taken = 0;
            for (int soap = 0; soap < soapCount; soap++) {
                if ((soapSet >> soap & 1) == 1) {
                    taken |= takes(soap);
                }
            }
            return taken;
        }

        int takenByAny() {
            return takenBy((1 << MOST_SOAPS) - 1);
        }

        void addSoap(int strength, int price, int rough, int takes) {
            if (soapCount < MOST_SOAPS) {
                int row = soapCount * SOAP_ROW;
                soapRows[row] = strength;
                soapRows[row + 1] = price;
                soapRows[row + 2] = rough;
                soapRows[row + 3] = takes;
                soapCount++;
            }
        }

        void removeSoap(int soap) {
            for (int i = soap * SOAP_ROW; i + SOAP_ROW < soapRows.length; i++) {
                soapRows[i] = soapRows[i + SOAP_ROW];
            }
            soapCount--;
        }

        void addDue(int night, int least) {
            if (dueCount < MOST_DUES) {
                dueRows[dueCount * DUE_ROW] = night;
                dueRows[dueCount * DUE_ROW + 1] = least;
                dueCount++;
            }
        }

        int dueNight(int k) {
            return dueRows[k * DUE_ROW];
        }

        int dueLight(int k) {
            return dueRows[k * DUE_ROW + 1];
        }

        void addLog(int part, int soap, int out) {
            int row = logTotal % MOST_LOGGED * LOG_ROW;
            logRows[row] = moon.night;
            logRows[row + 1] = part;
            logRows[row + 2] = soap;
            logRows[row + 3] = out;
            logTotal++;
        }

        int logSize() {
            return Math.min(logTotal, MOST_LOGGED);
        }

        int logged(int ago, int what) {
            int row = (logTotal - 1 - ago) % MOST_LOGGED;
            return logRows[row * LOG_ROW + what];
        }

        private int draw() {
            seed = 1103515245 * seed + 12345;
            return seed >>> 16 & 32767;
        }

        /** One night with its draws: how many parts got dry. */
        int oneNight(Law law) {
            moon.damp = draw() % (MOST_DAMP + 1);
            int dried = moon.air(law);
            if (draw() % 100 < wolves) {
                int part = draw() % PARTS;
                int kind = draw() % KINDS;
                if (moon.isHung(part)) {
                    moon.stains[part] |= 1 << kind;
                }
            }
            if (draw() % 100 < thieves) {
                int part = draw() % PARTS;
                if (moon.isHung(part)) {
                    moon.setHung(part, false);
                    moon.grey[part] = NINE;
                }
            }
            water = Math.min(MOST_WATER, water + spring);
            moon.night++;
            return dried;
        }
    }

    /** The law, its conditions as steps that find their terms on a stack. */
    private static final class Law {
        static final int MOST_LINES = 12;
        static final int SHINE = 0;
        static final int DULL = 1;
        static final int DRY = 2;
        static final int SOIL = 3;
        // Steps below FIRST_SEEN are numbers of the text themselves.
        static final int FIRST_SEEN = 1000;
        static final int PART = 1000;
        static final int GREY = 1001;
        static final int THIN = 1002;
        static final int WET = 1003;
        static final int STAINS = 1004;
        static final int WIND = 1005;
        static final int DAMP = 1006;
        static final int NIGHT = 1007;
        static final int FULL = 1008;
        static final int HUNG = 1009;
        static final int SEEN = 10;
        static final int NOT = 1010;
        static final int PLUS = 1011;
        static final int LESS = 1012;
        static final int MORE = 1013;
        static final int AND = 1014;
        static final int OR = 1015;
        // Of 7 ( and not levels each leaves an or's and an and's left side; a comparison needs 3 more.
        static final int STACK = 32;

        int lines = NONE;
        final int[] kinds = new int[MOST_LINES];
        final int[] amounts = new int[MOST_LINES];
        // Behind the last step of a line; the next line's steps begin there.
        final int[] ends = new int[MOST_LINES];
        final int[] steps = new int[MOST_BYTES];
        int stepCount;
        private final int[] seen = new int[SEEN];
        private final int[] stack = new int[STACK];

        void clear() {
            lines = 0;
            stepCount = 0;
        }

        void addStep(int step) {
            if (stepCount < steps.length) {
                steps[stepCount] = step;
                stepCount++;
            }
        }

        /** Ends a line whose steps were added. */
        void addLine(int kind, int amount) {
            if (lines >= 0 && lines < MOST_LINES) {
                kinds[lines] = kind;
                amounts[lines] = amount;
                ends[lines] = stepCount;
                lines++;
            }
        }

        void become(Law other) {
            lines = other.lines;
            stepCount = other.stepCount;
            System.arraycopy(other.kinds, 0, kinds, 0, MOST_LINES);
            System.arraycopy(other.amounts, 0, amounts, 0, MOST_LINES);
            System.arraycopy(other.ends, 0, ends, 0, MOST_LINES);
            System.arraycopy(other.steps, 0, steps, 0, steps.length);
        }

        int whiteOf(Moon moon, int part) {
            int white = NINE + sumOf(SHINE, moon, part) - sumOf(DULL, moon, part)
                    - moon.grey[part] - Integer.bitCount(moon.stains[part]);
            return Math.max(0, Math.min(20, white));
        }

        int lightOf(Moon moon, int part) {
            return moon.isHung(part) && moon.wet[part] == 0 ? whiteOf(moon, part) : 0;
        }

        int allLight(Moon moon) {
            int sum = 0;
            for (int part = 0; part < PARTS; part++) {
                sum += lightOf(moon, part);
            }
            return sum;
        }

        int driesBy(Moon moon, int part) {
            return Math.max(0, moon.wind[moon.pegOf[part]] + sumOf(DRY, moon, part) - moon.damp / 3);
        }

        int soilsBy(Moon moon, int part) {
            return sumOf(SOIL, moon, part);
        }

        private int sumOf(int kind, Moon moon, int part) {
            int sum = 0;
            int from = 0;
            boolean looked = false;
            for (int line = 0; line < lines && line < MOST_LINES; line++) {
                if (kinds[line] == kind) {
                    if (!looked) {
                        look(moon, part);
                        looked = true;
                    }
                    sum += holds(from, ends[line]) ? amounts[line] : 0;
                }
                from = ends[line];
            }
            return sum;
        }

        private void look(Moon moon, int part) {
            seen[PART - FIRST_SEEN] = part;
            seen[GREY - FIRST_SEEN] = moon.grey[part];
            seen[THIN - FIRST_SEEN] = moon.thin[part];
            seen[WET - FIRST_SEEN] = moon.wet[part];
            seen[STAINS - FIRST_SEEN] = Integer.bitCount(moon.stains[part]);
            seen[WIND - FIRST_SEEN] = moon.wind[moon.pegOf[part]];
            seen[DAMP - FIRST_SEEN] = moon.damp;
            seen[NIGHT - FIRST_SEEN] = moon.night;
            seen[FULL - FIRST_SEEN] = moon.night % 28 == 14 ? 1 : 0;
            seen[HUNG - FIRST_SEEN] = moon.isHung(part) ? 1 : 0;
        }

        /** Whether a condition holds; one without steps always does. */
        private boolean holds(int from, int to) {
            int top = 0;
            for (int i = from; i < to && i < steps.length; i++) {
                int step = steps[i];
                if (step < FIRST_SEEN + SEEN) {
                    if (top < STACK) {
                        stack[top] = step < FIRST_SEEN ? step : seen[step - FIRST_SEEN];
                        top++;
                    }
                } else if (step == NOT) {
                    if (top >= 1) {
                        stack[top - 1] = 1 - stack[top - 1];
                    }
                } else if (top >= 2) {
                    top--;
                    stack[top - 1] = joined(step, stack[top - 1], stack[top]);
                }
            }
            return top == 0 || stack[top - 1] == 1;
        }

        private static int joined(int step, int left, int right) {
            switch (step) {
                case PLUS: return left + right;
                case LESS: return left < right ? 1 : 0;
                case MORE: return left > right ? 1 : 0;
                case AND: return left & right;
                default: return left | right;
            }
        }
    }

    /** What can stand in a text; a term or a condition's word has the step that the law takes for it. */
    private enum Token {
        END("", NONE),
        NUMBER("", NONE),
        OTHER("", NONE),
        SEMICOLON(";", NONE),
        OPEN("(", NONE),
        CLOSE(")", NONE),
        PLUS("+", NONE),
        LESS("<", NONE),
        MORE(">", NONE),
        SOAP("soap", NONE),
        WATER("water", NONE),
        ROUGH("rough", NONE),
        TAKES("takes", NONE),
        PART("part", Law.PART),
        GREY("grey", Law.GREY),
        THIN("thin", Law.THIN),
        WET("wet", Law.WET),
        STAINS("stains", Law.STAINS),
        WIND("wind", Law.WIND),
        DAMP("damp", Law.DAMP),
        NIGHT("night", Law.NIGHT),
        DUE("due", NONE),
        LIGHT("light", NONE),
        SPRING("spring", NONE),
        WOLVES("wolves", NONE),
        THIEVES("thieves", NONE),
        SHINE("shine", NONE),
        DULL("dull", NONE),
        DRY("dry", NONE),
        SOIL("soil", NONE),
        IF("if", NONE),
        OR("or", NONE),
        AND("and", NONE),
        NOT("not", NONE),
        FULL("full", NONE),
        HUNG("hung", NONE);

        private static final Token[] ALL = values();

        final String text;
        final int term;

        Token(String text, int term) {
            this.text = text;
            this.term = term;
        }

        /** The token that is written so; OTHER, if there is none. */
        static Token written(int[] bytes, int begin, int size) {
            for (int i = 0; i < ALL.length; i++) {
                if (size > 0 && ALL[i].isAt(bytes, begin, size)) {
                    return ALL[i];
                }
            }
            return OTHER;
        }

        private boolean isAt(int[] bytes, int begin, int size) {
            if (size != text.length() || begin + size > bytes.length) {
                return false;
            }
            for (int i = 0; i < size; i++) {
                if (bytes[begin + i] != text.charAt(i)) {
                    return false;
                }
            }
            return true;
        }
    }

    /** A text cut into words, numbers and signs. Behind the first wrong one nothing more is taken. */
    private static final class Words {
        private static final int LETTER = 0;
        private static final int DIGIT = 1;
        private static final int SIGN = 2;
        private static final int MOST_DIGITS = 3;

        private final int[] text = new int[MOST_BYTES];
        private final Token[] tokens = new Token[MOST_BYTES + 1];
        private final int[] begins = new int[MOST_BYTES + 1];
        private final int[] sizes = new int[MOST_BYTES + 1];
        // Of a number itself, of a word its term; NONE of all that is no term.
        private final int[] values = new int[MOST_BYTES + 1];
        private int at;
        int wrong = NONE;

        Words() {
            for (int i = 0; i <= MOST_BYTES; i++) {
                tokens[i] = Token.END;
            }
        }

        void cut(int[] bytes, int size) {
            int length = Math.max(0, Math.min(size, MOST_BYTES));
            System.arraycopy(bytes, 0, text, 0, length);
            wrong = NONE;
            at = 0;
            int found = 0;
            int pos = 0;
            while (pos < length) {
                int begin = pos;
                int type = typeOf(text[begin]);
                pos++;
                while (pos < length && type != SIGN && typeOf(text[pos]) == type) {
                    pos++;
                }
                if (text[begin] != ' ') {
                    put(found, type, begin, pos - begin);
                    found++;
                }
            }
            tokens[found] = Token.END;
            begins[found] = length;
            sizes[found] = 0;
            values[found] = NONE;
        }

        private static int typeOf(int sign) {
            if (sign >= 'a' && sign <= 'z') {
                return LETTER;
            }
            return sign >= '0' && sign <= '9' ? DIGIT : SIGN;
        }

        private void put(int index, int type, int begin, int size) {
            begins[index] = begin;
            sizes[index] = size;
            if (type == DIGIT) {
                tokens[index] = Token.NUMBER;
                values[index] = numberAt(begin, size);
            } else {
                tokens[index] = Token.written(text, begin, size);
                values[index] = tokens[index].term;
            }
        }

        private int numberAt(int begin, int size) {
            if (size > MOST_DIGITS) {
                return NONE;
            }
            int number = 0;
            for (int i = 0; i < size; i++) {
                number = number * 10 + text[begin + i] - '0';
            }
            return number;
        }

        /** What comes next cannot stand there. */
        void refuse() {
            if (wrong == NONE) {
                wrong = begins[at];
            }
        }

        boolean sees(Token token) {
            return wrong == NONE && tokens[at] == token;
        }

        boolean takes(Token token) {
            if (wrong != NONE || tokens[at] != token || token == Token.END) {
                return false;
            }
            at++;
            return true;
        }

        void need(Token token) {
            if (!takes(token)) {
                refuse();
            }
        }

        void needEnd() {
            if (tokens[at] != Token.END) {
                refuse();
            }
        }

        int needNumber(int least, int most) {
            boolean fits = tokens[at] == Token.NUMBER && values[at] >= least && values[at] <= most;
            if (wrong != NONE || !fits) {
                refuse();
                return least;
            }
            at++;
            return values[at - 1];
        }

        /** A number, or what the law sees of a part. */
        int needTerm() {
            if (wrong != NONE || values[at] == NONE) {
                refuse();
                return 0;
            }
            at++;
            return values[at - 1];
        }

        /** A word of kinds, as bits. */
        int needKinds() {
            int kinds = 0;
            for (int i = 0; i < sizes[at]; i++) {
                int kind = text[begins[at] + i] - 'a';
                if (kind < 0 || kind >= KINDS || (kinds >> kind & 1) == 1) {
                    refuse();
                    return 0;
                }
                kinds |= 1 << kind;
            }
            if (wrong != NONE || kinds == 0) {
                refuse();
                return 0;
            }
            at++;
            return kinds;
        }
    }

    /** Reads a text of the house into a laundry that is thrown away if the text is wrong. */
    private static final class HouseText {
        private static final int MOST_LINES = 14;

        private HouseText() {
        }

        static void read(Words words, Laundry into) {
            if (words.sees(Token.END)) {
                return;
            }
            for (int lines = 0; lines < MOST_LINES; lines++) {
                readLine(words, into);
                if (!words.takes(Token.SEMICOLON)) {
                    words.needEnd();
                    return;
                }
            }
            words.refuse();
        }

        private static void readLine(Words words, Laundry into) {
            if (words.sees(Token.SOAP)) {
                readSoap(words, into);
            } else if (words.sees(Token.DUE)) {
                readDue(words, into);
            } else if (words.takes(Token.PART)) {
                readPart(words, into.moon);
            } else if (words.takes(Token.WIND)) {
                int peg = words.needNumber(0, PARTS - 1);
                into.moon.wind[peg] = words.needNumber(0, NINE);
            } else if (words.takes(Token.SPRING)) {
                into.spring = words.needNumber(0, 20);
            } else if (words.takes(Token.WATER)) {
                into.water = words.needNumber(0, MOST_WATER);
            } else if (words.takes(Token.WOLVES)) {
                into.wolves = words.needNumber(0, 100);
            } else if (words.takes(Token.THIEVES)) {
                into.thieves = words.needNumber(0, 100);
            } else {
                words.refuse();
            }
        }

        private static void readSoap(Words words, Laundry into) {
            if (into.soapCount >= MOST_SOAPS) {
                words.refuse();
            }
            words.need(Token.SOAP);
            int strength = words.needNumber(0, NINE);
            words.need(Token.WATER);
            int price = words.needNumber(1, 30);
            words.need(Token.ROUGH);
            int rough = words.needNumber(0, 3);
            int takes = words.takes(Token.TAKES) ? words.needKinds() : 0;
            into.addSoap(strength, price, rough, takes);
        }

        private static void readDue(Words words, Laundry into) {
            if (into.dueCount >= MOST_DUES) {
                words.refuse();
            }
            words.need(Token.DUE);
            int night = words.needNumber(0, 999);
            words.need(Token.LIGHT);
            into.addDue(night, words.needNumber(1, 99));
        }

        private static void readPart(Words words, Moon moon) {
            int part = words.needNumber(0, PARTS - 1);
            words.need(Token.GREY);
            moon.grey[part] = words.needNumber(0, NINE);
            words.need(Token.THIN);
            moon.thin[part] = words.needNumber(0, NINE);
            moon.stains[part] = words.takes(Token.STAINS) ? words.needKinds() : 0;
        }
    }

    /** Reads a text of the law into one that is thrown away if the text is wrong. */
    private static final class LawText {
        private static final int MOST_DEEP = 6;

        private LawText() {
        }

        static void read(Words words, Law into) {
            into.clear();
            if (words.sees(Token.END)) {
                return;
            }
            for (int lines = 0; lines < Law.MOST_LINES; lines++) {
                readLine(words, into);
                if (!words.takes(Token.SEMICOLON)) {
                    words.needEnd();
                    return;
                }
            }
            words.refuse();
        }

        private static void readLine(Words words, Law into) {
            int kind = Law.SHINE;
            if (words.takes(Token.DULL)) {
                kind = Law.DULL;
            } else if (words.takes(Token.DRY)) {
                kind = Law.DRY;
            } else if (words.takes(Token.SOIL)) {
                kind = Law.SOIL;
            } else {
                words.need(Token.SHINE);
            }
            int amount = words.needNumber(0, 20);
            if (words.takes(Token.IF)) {
                readCondition(words, into, 0);
            }
            into.addLine(kind, amount);
        }

        private static void readCondition(Words words, Law into, int deep) {
            boolean or = true;
            for (int alls = 0; or && alls < MOST_BYTES; alls++) {
                boolean and = true;
                for (int atoms = 0; and && atoms < MOST_BYTES; atoms++) {
                    readAtom(words, into, deep);
                    if (atoms > 0) {
                        into.addStep(Law.AND);
                    }
                    and = words.takes(Token.AND);
                }
                if (alls > 0) {
                    into.addStep(Law.OR);
                }
                or = words.takes(Token.OR);
            }
        }

        private static void readAtom(Words words, Law into, int deep) {
            boolean opens = words.sees(Token.NOT) || words.sees(Token.OPEN);
            if (opens && deep >= MOST_DEEP) {
                words.refuse();
            } else if (words.takes(Token.NOT)) {
                readAtom(words, into, deep + 1);
                into.addStep(Law.NOT);
            } else if (words.takes(Token.OPEN)) {
                readCondition(words, into, deep + 1);
                words.need(Token.CLOSE);
            } else if (words.takes(Token.FULL)) {
                into.addStep(Law.FULL);
            } else if (words.takes(Token.HUNG)) {
                into.addStep(Law.HUNG);
            } else {
                readSum(words, into);
                boolean less = words.takes(Token.LESS);
                if (!less) {
                    words.need(Token.MORE);
                }
                readSum(words, into);
                into.addStep(less ? Law.LESS : Law.MORE);
            }
        }

        private static void readSum(Words words, Law into) {
            boolean more = true;
            for (int terms = 0; more && terms < MOST_BYTES; terms++) {
                into.addStep(words.needTerm());
                if (terms > 0) {
                    into.addStep(Law.PLUS);
                }
                more = words.takes(Token.PLUS);
            }
        }
    }

    /** The acts that can be undone: how all was ahead of each. Texts forget them, so the law need not be kept. */
    private static final class Past {
        private final Laundry[] rows = new Laundry[MOST_UNDONE];
        private int next;
        int size;

        Past() {
            for (int i = 0; i < MOST_UNDONE; i++) {
                rows[i] = new Laundry();
            }
        }

        void keep(Laundry laundry) {
            rows[next].become(laundry);
            next = (next + 1) % MOST_UNDONE;
            size = Math.min(MOST_UNDONE, size + 1);
        }

        boolean giveBack(Laundry into) {
            if (size == 0) {
                return false;
            }
            size--;
            next = (next + MOST_UNDONE - 1) % MOST_UNDONE;
            into.become(rows[next]);
            return true;
        }

        void forget() {
            size = 0;
        }
    }

    /** The image, with the light that its parts had by its own law. */
    private static final class Image {
        final Laundry laundry = new Laundry();
        final Law law = new Law();
        final int[] shone = new int[PARTS];
        boolean taken;

        void keep(Laundry from, Law by) {
            laundry.become(from);
            law.become(by);
            for (int part = 0; part < PARTS; part++) {
                shone[part] = by.lightOf(from.moon, part);
            }
            taken = true;
        }
    }

    /** The least water for a light, found from the last part on, so that the first way can be walked from part 0 on. */
    private static final class WaterPlan {
        // More than eight washings by the dearest soap.
        static final int NEVER = 1000;

        // Choice 0 is no washing, choice c the soap c - 1.
        private final int[][] whites = new int[PARTS][MOST_SOAPS + 1];
        private final int[] prices = new int[MOST_SOAPS + 1];
        private int choices;
        // By part and light: the least water with which the parts from it on have that light.
        private final int[][] waters = new int[PARTS + 1][MOST_LIGHT + 1];

        void begin(Laundry laundry) {
            choices = laundry.soapCount + 1;
            for (int choice = 1; choice < choices; choice++) {
                prices[choice] = laundry.price(choice - 1);
            }
        }

        void tell(int part, int soap, int white) {
            whites[part][soap + 1] = white;
        }

        void fill(int most) {
            for (int wanted = 0; wanted <= most; wanted++) {
                waters[PARTS][wanted] = wanted == 0 ? 0 : NEVER;
            }
            for (int part = PARTS - 1; part >= 0; part--) {
                for (int wanted = 0; wanted <= most; wanted++) {
                    int found = NEVER;
                    for (int choice = 0; choice < choices; choice++) {
                        found = Math.min(found, waterWith(part, choice, wanted));
                    }
                    waters[part][wanted] = found;
                }
            }
        }

        private int waterWith(int part, int choice, int wanted) {
            return prices[choice] + waters[part + 1][Math.max(0, wanted - whites[part][choice])];
        }

        int leastWater(int wanted) {
            return waters[0][wanted] >= NEVER ? NONE : waters[0][wanted];
        }

        int soapOf(int asked, int wanted) {
            if (waters[0][wanted] >= NEVER) {
                return NONE;
            }
            int open = wanted;
            int choice = 0;
            for (int part = 0; part <= asked; part++) {
                choice = firstChoice(part, open);
                open = Math.max(0, open - whites[part][choice]);
            }
            return choice - 1;
        }

        private int firstChoice(int part, int wanted) {
            for (int choice = 0; choice < choices; choice++) {
                if (waterWith(part, choice, wanted) == waters[part][wanted]) {
                    return choice;
                }
            }
            return 0;
        }
    }

    /** The pegs by which all is dry soonest, found by the set of pegs that earlier parts have. */
    private static final class PegPlan {
        final int[][] nightsOn = new int[PARTS][PARTS];
        // By the pegs given away: the nights that the parts without one need at least.
        private final int[] longest = new int[ALL_PARTS + 1];

        void tell(int part, int peg, int nights) {
            nightsOn[part][peg] = nights;
        }

        void fill() {
            longest[ALL_PARTS] = 0;
            for (int given = ALL_PARTS - 1; given >= 0; given--) {
                int part = Integer.bitCount(given);
                int found = MOST_AHEAD + 1;
                for (int peg = 0; peg < PARTS; peg++) {
                    if ((given >> peg & 1) == 0) {
                        found = Math.min(found, nightsWith(part, peg, given));
                    }
                }
                longest[given] = found;
            }
        }

        private int nightsWith(int part, int peg, int given) {
            return Math.max(nightsOn[part][peg], longest[given | 1 << peg]);
        }

        int leastNights() {
            return longest[0] > MOST_AHEAD ? NONE : longest[0];
        }

        int pegOfPart(int asked) {
            if (longest[0] > MOST_AHEAD) {
                return NONE;
            }
            int given = 0;
            int found = 0;
            for (int part = 0; part <= asked; part++) {
                found = firstPeg(part, given);
                given |= 1 << found;
            }
            return found;
        }

        private int firstPeg(int part, int given) {
            for (int peg = 0; peg < PARTS; peg++) {
                if ((given >> peg & 1) == 0 && nightsWith(part, peg, given) <= longest[0]) {
                    return peg;
                }
            }
            return 0;
        }
    }
}
