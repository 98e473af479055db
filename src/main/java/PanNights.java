import java.util.Arrays;
import java.util.NoSuchElementException;

/** A village that gives three nights of noise to whoever broke a custom; DOC.md tells the promises. */
public final class PanNights {
    public static final int NONE = -1;

    private static final int MOST_PEOPLE = 8;
    private static final int MOST_BYTES = 400;
    private static final int FED_BYTES = 20;
    private static final int MOST_PAIR_BYTES = 40;
    private static final int MOST_TEXTS = 12;
    private static final int MOST_VILLAGE_LINES = 14;
    private static final int MOST_LAW_LINES = 12;
    private static final int MOST_DEEP = 6;
    private static final int MOST_ROWS = 60;
    private static final int MOST_ACTS = 12;
    private static final int MOST_NIGHTS = 60;
    private static final int LAST_NIGHT = 9999;
    private static final int NIGHTS_TO_BEAR = 3;
    private static final int TRIAL_SEEDS = 6;

    private static final int MOST_THRESHOLD = 8;
    private static final int MOST_THIRST = 9;
    private static final int MOST_PRIDE = 99;
    private static final int MOST_PURSE = 9999;
    private static final int MOST_WRONG = 9;
    private static final int MOST_GIFT = 999;
    private static final int MOST_RAIN = 100;
    private static final int MOST_WATCH = 100;
    private static final int MOST_FINE = 30;
    private static final int MOST_ALE = 20;
    private static final int MOST_AMOUNT = 30;
    private static final int MOST_NUMBER = 999;
    private static final int MOST_DIGITS = 3;

    // What is known of a person, in the order in which person(..) tells it.
    private static final int THRESHOLD = 0;
    private static final int THIRST = 1;
    private static final int PRIDE = 2;
    private static final int PURSE = 3;
    private static final int WRONG = 4;
    private static final int FEUD = 5;
    private static final int STRANGE = 6;
    private static final int BEGINS = 7;
    private static final int TRAITS = 8;

    // A row of the log, in the order in which log(..) tells it.
    private static final int ROW_NIGHT = 0;
    private static final int ROW_TARGET = 1;
    private static final int ROW_CAME = 2;
    private static final int ROW_END = 3;
    private static final int ROW_WIDTH = 4;

    private static final int NOBODY_CAME = 0;
    private static final int FINED = 1;
    private static final int BOUGHT_OFF = 2;
    private static final int BORNE = 3;

    // Things in a text: a number of 1 to 3 digits stands for itself (0 to 999), words have codes in the order of WORDS,
    // signs have their byte behind FIRST_SIGN.
    private static final String WORDS = "person needs thirst pride purse strange begins wrong feud with target rain watch fine ale night need spare pan if or and not wet who threshold borne";
    private static final int FIRST_WORD = 1000;
    private static final int WORD_PERSON = 1000;
    private static final int WORD_NEEDS = 1001;
    private static final int WORD_THIRST = 1002;
    private static final int WORD_PRIDE = 1003;
    private static final int WORD_PURSE = 1004;
    private static final int WORD_STRANGE = 1005;
    private static final int WORD_BEGINS = 1006;
    private static final int WORD_WRONG = 1007;
    private static final int WORD_FEUD = 1008;
    private static final int WORD_WITH = 1009;
    private static final int WORD_TARGET = 1010;
    private static final int WORD_RAIN = 1011;
    private static final int WORD_WATCH = 1012;
    private static final int WORD_FINE = 1013;
    private static final int WORD_ALE = 1014;
    private static final int WORD_NIGHT = 1015;
    private static final int WORD_NEED = 1016;
    private static final int WORD_SPARE = 1017;
    private static final int WORD_PAN = 1018;
    private static final int WORD_IF = 1019;
    private static final int WORD_OR = 1020;
    private static final int WORD_AND = 1021;
    private static final int WORD_NOT = 1022;
    private static final int WORD_WET = 1023;
    private static final int WORD_WHO = 1024;
    private static final int WORD_THRESHOLD = 1025;
    private static final int WORD_BORNE = 1026;
    private static final int MOST_WORDS = 27;
    private static final int FIRST_SIGN = 2000;
    private static final int SIGN_NEXT = FIRST_SIGN + ';';
    private static final int SIGN_OPEN = FIRST_SIGN + '(';
    private static final int SIGN_CLOSE = FIRST_SIGN + ')';
    private static final int SIGN_LESS = FIRST_SIGN + '<';
    private static final int SIGN_MORE = FIRST_SIGN + '>';
    private static final int SIGN_PLUS = FIRST_SIGN + '+';
    private static final int NO_SUCH_THING = 3000;
    private static final int TEXT_OVER = 3001;

    // The choices of one to whom the village comes, or not.
    private static final int PAYS = 0;
    private static final int BEARS = 1;
    private static final int DANCES = 2;
    private static final int CHOICES = 3;
    private static final int COMES = 0;
    private static final int STAYS = 1;
    private static final int CELLS = 6;

    private final Text text;
    private final Village now;
    private final Village draft;
    private final Village imageVillage;
    private final Law rules;
    private final Law draftRules;
    private final Law imageRules;
    private final VillageReader villageReader;
    private final LawReader lawReader;
    private final Crowd crowd;
    private final Past past;
    private final Sets sets;
    private final Game game;
    private final int[] incomes;
    private boolean imageKept;
    private int firstWrong;

    public PanNights() {
        text = new Text();
        now = new Village();
        draft = new Village();
        imageVillage = new Village();
        rules = new Law();
        draftRules = new Law();
        imageRules = new Law();
        villageReader = new VillageReader(text, draft);
        lawReader = new LawReader(text, draftRules);
        crowd = new Crowd();
        past = new Past();
        sets = new Sets();
        game = new Game();
        incomes = new int[MOST_ALE + 1];
        imageKept = false;
        firstWrong = NONE;
    }

    // ---- the tape and the texts

    public int feed(int a, int b, int c, int d, int e) {
        if (!text.hasRoom(FED_BYTES)) {
            return NONE;
        }
        text.put(a);
        text.put(b);
        text.put(c);
        text.put(d);
        text.put(e);
        return text.length;
    }

    public boolean end(int n) {
        if (n < 0 || n > text.length) {
            return false;
        }
        text.length = n;
        return true;
    }

    public int village() throws IllegalArgumentException, UnsupportedOperationException {
        text.useUp();
        text.split();
        draft.copy(now);
        boolean right = villageReader.readLines(MOST_VILLAGE_LINES);
        firstWrong = text.wrong;
        if (!right) {
            throw new IllegalArgumentException();
        }
        if (now.texts >= MOST_TEXTS) {
            throw new UnsupportedOperationException();
        }
        now.copy(draft);
        now.texts++;
        past.forget();
        return now.texts;
    }

    public int law() throws IllegalArgumentException {
        text.useUp();
        text.split();
        draftRules.clear();
        boolean right = lawReader.readLines(MOST_LAW_LINES);
        firstWrong = text.wrong;
        if (!right) {
            throw new IllegalArgumentException();
        }
        rules.copy(draftRules);
        past.forget();
        return rules.lines;
    }

    public int fault() {
        return firstWrong;
    }

    // ---- single facts

    public int person(int person, int what) throws IndexOutOfBoundsException, NoSuchElementException {
        checkPerson(person);
        if (what < 0 || what >= TRAITS) {
            throw new NoSuchElementException();
        }
        return now.of(person, what);
    }

    public int against(int person, int other, boolean pans) throws IndexOutOfBoundsException, IllegalArgumentException {
        checkTwo(person, other);
        rules.weigh(now, person, other);
        return pans ? rules.pans : rules.needs;
    }

    // ---- acts

    public int name(int person) throws IndexOutOfBoundsException, IllegalStateException {
        checkPerson(person);
        if (now.of(person, WRONG) == 0) {
            throw new IllegalStateException();
        }
        past.remember(now);
        int was = now.target;
        now.aim(person);
        return was;
    }

    public boolean begin(int person, boolean is) throws IndexOutOfBoundsException {
        checkPerson(person);
        past.remember(now);
        int value = is ? 1 : 0;
        return now.tell(person, BEGINS, value) != value;
    }

    public int buy() throws IllegalStateException {
        int buyer = now.target;
        if (buyer == NONE) {
            throw new IllegalStateException();
        }
        summonTo(buyer);
        if (now.of(buyer, PURSE) < priceOf()) {
            throw new IllegalStateException();
        }
        past.remember(now);
        buyOff(now);
        return now.of(buyer, PURSE);
    }

    public int feud(int person, int other) throws IndexOutOfBoundsException, IllegalArgumentException {
        checkPerson(person);
        if (other != NONE) {
            checkTwo(person, other);
        }
        past.remember(now);
        return now.tell(person, FEUD, other);
    }

    public int teach(int person, int n) throws IndexOutOfBoundsException, IllegalArgumentException {
        checkPerson(person);
        checkNumber(n, 0, MOST_THRESHOLD);
        past.remember(now);
        return now.tell(person, THRESHOLD, n);
    }

    public int wrong(int person, int n) throws IndexOutOfBoundsException, IllegalArgumentException {
        checkPerson(person);
        checkNumber(n, 0, MOST_WRONG);
        past.remember(now);
        return now.tell(person, WRONG, n);
    }

    public int give(int person, int n) throws IndexOutOfBoundsException, IllegalArgumentException {
        checkPerson(person);
        checkNumber(n, 1, MOST_GIFT);
        past.remember(now);
        now.tell(person, PURSE, Math.min(MOST_PURSE, now.of(person, PURSE) + n));
        return now.of(person, PURSE);
    }

    public int nights(int n) throws IllegalArgumentException {
        checkNumber(n, 1, MOST_NIGHTS);
        past.remember(now);
        int came = 0;
        for (int i = 0; i < n; i++) {
            came += passNight(now, true);
        }
        return came;
    }

    // ---- the crowd as things are now

    public int comes(int target) throws IndexOutOfBoundsException {
        checkPerson(target);
        summonTo(target);
        return crowd.came;
    }

    public int rounds(int target) throws IndexOutOfBoundsException {
        checkPerson(target);
        summonTo(target);
        return crowd.lastRound;
    }

    public int when(int person, int target) throws IndexOutOfBoundsException, IllegalArgumentException {
        checkTwo(person, target);
        summonTo(target);
        return crowd.roundOf(person);
    }

    public int loud(int target) throws IndexOutOfBoundsException {
        checkPerson(target);
        summonTo(target);
        return crowd.noise;
    }

    public int fewest(int target, int x) throws IndexOutOfBoundsException, IllegalArgumentException {
        checkPerson(target);
        checkNumber(x, 0, MOST_PEOPLE);
        crowd.invite(now, rules, target);
        int all = crowd.others;
        int found = NONE;
        int least = MOST_PEOPLE + 1;
        for (int set = 0; set <= all; set++) {
            if (isPart(set, all) && Integer.bitCount(set) < least && sizeBy(set, 0) >= x) {
                found = set;
                least = Integer.bitCount(set);
            }
        }
        return found;
    }

    public int keep(int target) throws IndexOutOfBoundsException {
        checkPerson(target);
        summonTo(target);
        int all = crowd.came;
        int found = NONE;
        int least = MOST_PEOPLE + 1;
        for (int set = 0; set <= all; set++) {
            if (isPart(set, all) && Integer.bitCount(set) < least && isCalmWithout(set, target)) {
                found = set;
                least = Integer.bitCount(set);
            }
        }
        return found;
    }

    public int tips(int target) throws IndexOutOfBoundsException {
        checkPerson(target);
        summonTo(target);
        int coming = crowd.came;
        int beginners = now.beginners();
        int found = NONE;
        int least = MOST_PEOPLE + 1;
        for (int p = 0; p < now.people; p++) {
            int left = hasBit(coming, p) ? sizeBy(beginners, 1 << p) : least;
            if (left < least) {
                least = left;
                found = p;
            }
        }
        return found;
    }

    // ---- prices and choices

    public int price(int target) throws IndexOutOfBoundsException {
        checkPerson(target);
        summonTo(target);
        return priceOf();
    }

    public boolean can(int target) throws IndexOutOfBoundsException {
        checkPerson(target);
        summonTo(target);
        return now.of(target, PURSE) >= priceOf();
    }

    public int dearest() {
        int found = NONE;
        int most = NONE;
        for (int p = 0; p < now.people; p++) {
            summonTo(p);
            if (crowd.size > 0 && wouldPay(p, now.ale) && priceOf() > most) {
                most = priceOf();
                found = p;
            }
        }
        return found;
    }

    public int brings(int ale) throws IllegalArgumentException {
        checkNumber(ale, 0, MOST_ALE);
        sumPrices();
        return incomes[ale];
    }

    public int best() {
        sumPrices();
        int found = 0;
        for (int ale = 1; ale <= MOST_ALE; ale++) {
            if (incomes[ale] > incomes[found]) {
                found = ale;
            }
        }
        return found;
    }

    public int rests(int target) throws IndexOutOfBoundsException {
        checkPerson(target);
        summonTo(target);
        game.put(PAYS, COMES, priceOf(), thirstOf());
        game.put(BEARS, COMES, crowd.noise, crowd.noise);
        game.put(DANCES, COMES, now.of(target, WRONG), -1);
        game.put(PAYS, STAYS, 1, 0);
        game.put(BEARS, STAYS, 0, 0);
        game.put(DANCES, STAYS, 0, 0);
        return game.restingCells();
    }

    // ---- whose pan was first

    public int heard(int target, boolean sure) throws IndexOutOfBoundsException, IllegalArgumentException {
        findSets(target);
        return sure ? sets.inAll : sets.found;
    }

    public int ask(int target) throws IndexOutOfBoundsException, IllegalArgumentException {
        findSets(target);
        return sets.bestToAsk(crowd.others);
    }

    // ---- feuds

    public int feuded(int target) throws IndexOutOfBoundsException {
        checkPerson(target);
        summonTo(target);
        int found = 0;
        for (int p = 0; p < now.people; p++) {
            if (hasBit(crowd.came, p) && now.of(p, FEUD) == target) {
                found |= 1 << p;
            }
        }
        return found;
    }

    public int feuds() {
        int found = 0;
        for (int p = 0; p < now.people; p++) {
            int q = now.of(p, FEUD);
            if (q > p && now.of(q, FEUD) == p) {
                found++;
            }
        }
        return found;
    }

    public boolean ring(int person) throws IndexOutOfBoundsException {
        checkPerson(person);
        int at = now.of(person, FEUD);
        for (int step = 0; step < MOST_PEOPLE && at != NONE && at != person; step++) {
            at = now.of(at, FEUD);
        }
        return at == person;
    }

    public int hated() {
        int found = NONE;
        int most = 0;
        for (int p = 0; p < now.people; p++) {
            int haters = hatersOf(p);
            if (haters > most) {
                most = haters;
                found = p;
            }
        }
        return found;
    }

    // ---- the magistrate, the brave, the alike

    public int watched(int target) throws IndexOutOfBoundsException {
        checkPerson(target);
        summonTo(target);
        return finesOf();
    }

    public int ripest() {
        int found = NONE;
        int most = 0;
        for (int p = 0; p < now.people; p++) {
            summonTo(p);
            int fines = finesOf();
            if (fines > most) {
                most = fines;
                found = p;
            }
        }
        return found;
    }

    public int brave(int target) throws IndexOutOfBoundsException {
        checkPerson(target);
        crowd.invite(now, rules, target);
        int found = NONE;
        for (int p = 0; p < now.people; p++) {
            if (p != target && (found == NONE || crowd.needsOf(p) < crowd.needsOf(found))) {
                found = p;
            }
        }
        return found;
    }

    public int alike() {
        int found = 0;
        for (int p = 0; p < now.people; p++) {
            for (int q = p + 1; q < now.people; q++) {
                if (areAlike(p, q)) {
                    found++;
                }
            }
        }
        return found;
    }

    // ---- nights ahead, trials and spans

    public int ends() {
        if (now.target == NONE) {
            return NONE;
        }
        draft.copy(now);
        for (int night = 1; night <= MOST_NIGHTS; night++) {
            passNight(draft, false);
            if (draft.target == NONE) {
                return night;
            }
        }
        return NONE;
    }

    public int spent(int person, int n) throws IndexOutOfBoundsException, IllegalArgumentException {
        checkPerson(person);
        checkNumber(n, 0, MOST_NIGHTS);
        tryNights(n, false, now.seed);
        return now.of(person, PURSE) - draft.of(person, PURSE);
    }

    public int calm(int n) throws IllegalArgumentException {
        checkNumber(n, 0, MOST_NIGHTS);
        if (now.target == NONE) {
            return 0;
        }
        tryNights(n, false, now.seed);
        return draft.of(now.target, PRIDE);
    }

    public int share(int person, int target) throws IndexOutOfBoundsException, IllegalArgumentException {
        checkTwo(person, target);
        summonTo(target);
        if (!hasBit(crowd.came, person) || crowd.noise <= 0) {
            return 0;
        }
        return 100 * crowd.pansOf(person) / crowd.noise;
    }

    public int trial(int n, boolean target) throws IllegalArgumentException {
        checkNumber(n, 0, MOST_NIGHTS);
        tryNights(n, true, now.seed);
        return target ? draft.target : draft.purses();
    }

    public int span(int n, boolean most) throws IllegalArgumentException {
        checkNumber(n, 0, MOST_NIGHTS);
        tryNights(n, true, 1);
        int found = draft.purses();
        for (int seed = 2; seed <= TRIAL_SEEDS; seed++) {
            tryNights(n, true, seed);
            int purses = draft.purses();
            found = most ? Math.max(found, purses) : Math.min(found, purses);
        }
        return found;
    }

    // ---- the log, undoing, the image

    public int led(int target, boolean night) throws IndexOutOfBoundsException {
        checkPerson(target);
        int rows = 0;
        int latest = NONE;
        for (int ago = 0; ago < now.rowCount; ago++) {
            if (now.row(ago, ROW_TARGET) == target) {
                latest = rows == 0 ? now.row(ago, ROW_NIGHT) : latest;
                rows++;
            }
        }
        return night ? latest : rows;
    }

    public int log(int ago, int what) throws NoSuchElementException {
        if (what < 0 || what >= ROW_WIDTH) {
            throw new NoSuchElementException();
        }
        return now.row(ago, what);
    }

    public int seed(int n) {
        int was = now.seed;
        now.seed = n;
        return was;
    }

    public boolean undo() {
        return past.restore(now);
    }

    public void image() {
        imageVillage.copy(now);
        imageRules.copy(rules);
        imageKept = true;
    }

    public boolean back() {
        if (!imageKept) {
            return false;
        }
        now.copy(imageVillage);
        rules.copy(imageRules);
        past.forget();
        return true;
    }

    public int count(int what) {
        switch (what) {
            case 0: return now.people;
            case 1: return now.texts;
            case 2: return rules.lines;
            case 3: return now.night;
            case 4: return now.wet ? 1 : 0;
            case 5: return now.target;
            case 6: return now.borne;
            case 7: return now.rain;
            case 8: return now.watch;
            case 9: return now.fine;
            case 10: return now.ale;
            case 11: return now.beginners();
            case 12: return now.purses();
            case 13: return now.rowCount;
            case 14: return past.size;
            default: return NONE;
        }
    }

    // ---- what is looked at ahead of a call

    private void checkPerson(int person) {
        if (!now.has(person)) {
            throw new IndexOutOfBoundsException();
        }
    }

    private void checkTwo(int person, int other) {
        checkPerson(person);
        checkPerson(other);
        if (person == other) {
            throw new IllegalArgumentException();
        }
    }

    private static void checkNumber(int n, int least, int most) {
        if (n < least || n > most) {
            throw new IllegalArgumentException();
        }
    }

    // ---- crowds

    private void summonTo(int target) {
        crowd.invite(now, rules, target);
        crowd.gather(now.beginners(), 0);
    }

    private int sizeBy(int beginners, int atHome) {
        crowd.gather(beginners, atHome);
        return crowd.size;
    }

    private boolean isCalmWithout(int atHome, int target) {
        crowd.gather(now.beginners(), atHome);
        return crowd.noise < now.of(target, PRIDE);
    }

    private int priceOf() {
        return now.ale * crowd.size;
    }

    private boolean wouldPay(int target, int ale) {
        return crowd.noise >= now.of(target, PRIDE) && now.of(target, PURSE) >= ale * crowd.size;
    }

    /** What each ale brings, from one look at each crowd. */
    private void sumPrices() {
        Arrays.fill(incomes, 0);
        for (int p = 0; p < now.people; p++) {
            summonTo(p);
            for (int ale = 0; ale <= MOST_ALE; ale++) {
                incomes[ale] += wouldPay(p, ale) ? ale * crowd.size : 0;
            }
        }
    }

    private int thirstOf() {
        int sum = 0;
        for (int p = 0; p < now.people; p++) {
            sum += hasBit(crowd.came, p) ? now.of(p, THIRST) : 0;
        }
        return sum;
    }

    private int finesOf() {
        int sum = 0;
        for (int p = 0; p < now.people; p++) {
            sum += hasBit(crowd.came, p) ? Math.min(now.fine, now.of(p, PURSE)) : 0;
        }
        return sum;
    }

    private int hatersOf(int person) {
        int sum = 0;
        for (int p = 0; p < now.people; p++) {
            sum += now.of(p, FEUD) == person ? 1 : 0;
        }
        return sum;
    }

    private boolean areAlike(int p, int q) {
        return now.of(p, THRESHOLD) == now.of(q, THRESHOLD)
            && now.of(p, THIRST) == now.of(q, THIRST)
            && now.of(p, PRIDE) == now.of(q, PRIDE);
    }

    private static boolean hasBit(int set, int person) {
        return (set >> person & 1) == 1;
    }

    private static boolean isPart(int set, int whole) {
        return (set & ~whole) == 0;
    }

    // ---- sets of beginners by what was heard

    private void findSets(int target) {
        // The tape is used up even where the person is none.
        text.useUp();
        checkPerson(target);
        if (!arePairs(target)) {
            throw new IllegalArgumentException();
        }
        crowd.invite(now, rules, target);
        int all = crowd.others;
        sets.clear();
        for (int set = 0; set <= all; set++) {
            if (isPart(set, all) && fitsPairs(set)) {
                sets.add(set);
            }
        }
    }

    private boolean arePairs(int target) {
        if (text.limit > MOST_PAIR_BYTES || text.limit % 2 != 0) {
            return false;
        }
        for (int i = 0; i + 1 < text.limit; i += 2) {
            int first = text.byteAt(i);
            int second = text.byteAt(i + 1);
            if (!now.has(first) || !now.has(second) || first == target || second == target || first == second) {
                return false;
            }
        }
        return true;
    }

    private boolean fitsPairs(int beginners) {
        crowd.gather(beginners, 0);
        for (int i = 0; i + 1 < text.limit; i += 2) {
            int first = crowd.roundOf(text.byteAt(i));
            int second = crowd.roundOf(text.byteAt(i + 1));
            if (first == NONE || second == NONE || first >= second) {
                return false;
            }
        }
        return true;
    }

    // ---- nights

    private void tryNights(int n, boolean drawn, int seed) {
        draft.copy(now);
        draft.seed = seed;
        for (int i = 0; i < n; i++) {
            passNight(draft, drawn);
        }
    }

    /** One night: how many came. One that is not drawn has neither rain nor a magistrate and leaves the seed alone. */
    private int passNight(Village v, boolean drawn) {
        v.wet = drawn && v.draw() % 100 < v.rain;
        int target = v.target;
        int came = 0;
        if (target != NONE) {
            crowd.invite(v, rules, target);
            crowd.gather(v.beginners(), 0);
            came = crowd.size;
            int end = endOfNoise(v, drawn);
            v.addRow(target, came, end);
            v.bear();
        }
        v.night = Math.min(LAST_NIGHT, v.night + 1);
        return came;
    }

    private int endOfNoise(Village v, boolean drawn) {
        if (crowd.size == 0) {
            return NOBODY_CAME;
        }
        if (drawn && v.draw() % 100 < v.watch) {
            fineAll(v);
            return FINED;
        }
        int pride = v.of(v.target, PRIDE);
        if (crowd.noise >= pride && v.of(v.target, PURSE) >= v.ale * crowd.size) {
            buyOff(v);
            return BOUGHT_OFF;
        }
        v.tell(v.target, PRIDE, Math.max(0, pride - crowd.noise / 4));
        return BORNE;
    }

    private void fineAll(Village v) {
        for (int p = 0; p < v.people; p++) {
            if (hasBit(crowd.came, p)) {
                v.tell(p, PURSE, Math.max(0, v.of(p, PURSE) - v.fine));
            }
        }
    }

    private void buyOff(Village v) {
        v.tell(v.target, PURSE, v.of(v.target, PURSE) - v.ale * crowd.size);
        for (int p = 0; p < v.people; p++) {
            if (hasBit(crowd.came, p)) {
                v.tell(p, THIRST, Math.max(0, v.of(p, THIRST) - 1));
            }
        }
        v.forgive();
    }

    /** All that acts change and texts of the village tell. */
    private static final class Village {
        private final int[] traits = new int[MOST_PEOPLE * TRAITS];
        private final int[] rows = new int[MOST_ROWS * ROW_WIDTH];
        private int people = 0;
        private int texts = 0;
        private int target = NONE;
        private int borne = 0;
        private int night = 0;
        private boolean wet = false;
        private int rain = 0;
        private int watch = 0;
        private int fine = 3;
        private int ale = 2;
        private int seed = 1;
        private int rowCount = 0;
        private int nextRow = 0;

        void copy(Village from) {
            System.arraycopy(from.traits, 0, traits, 0, traits.length);
            System.arraycopy(from.rows, 0, rows, 0, rows.length);
            people = from.people;
            texts = from.texts;
            target = from.target;
            borne = from.borne;
            night = from.night;
            wet = from.wet;
            rain = from.rain;
            watch = from.watch;
            fine = from.fine;
            ale = from.ale;
            seed = from.seed;
            rowCount = from.rowCount;
            nextRow = from.nextRow;
        }

        boolean has(int person) {
            return person >= 0 && person < people;
        }

        int of(int person, int trait) {
            if (person < 0 || person >= people || trait < 0 || trait >= TRAITS) {
                return NONE;
            }
            return traits[person * TRAITS + trait];
        }

        /** Answers what it was. */
        int tell(int person, int trait, int value) {
            if (person < 0 || person >= people || trait < 0 || trait >= TRAITS) {
                return NONE;
            }
            int was = traits[person * TRAITS + trait];
            traits[person * TRAITS + trait] = value;
            return was;
        }

        /** Answers the newcomer, of whom nothing is told yet; none, if all places are taken. */
        int addPerson() {
            if (people >= MOST_PEOPLE) {
                return NONE;
            }
            int person = people;
            people++;
            for (int trait = 0; trait < TRAITS; trait++) {
                tell(person, trait, trait == FEUD ? NONE : 0);
            }
            return person;
        }

        void aim(int person) {
            target = person;
            borne = 0;
        }

        void bear() {
            if (target == NONE) {
                return;
            }
            borne++;
            if (borne >= NIGHTS_TO_BEAR) {
                forgive();
            }
        }

        void forgive() {
            tell(target, WRONG, 0);
            aim(NONE);
        }

        int beginners() {
            int set = 0;
            for (int p = 0; p < people; p++) {
                set |= of(p, BEGINS) << p;
            }
            return set;
        }

        int purses() {
            int sum = 0;
            for (int p = 0; p < people; p++) {
                sum += of(p, PURSE);
            }
            return sum;
        }

        int draw() {
            seed = 1103515245 * seed + 12345;
            return seed >>> 16 & 0x7fff;
        }

        void addRow(int person, int came, int end) {
            int from = nextRow * ROW_WIDTH;
            if (from < 0 || from + ROW_WIDTH > rows.length) {
                return;
            }
            rows[from + ROW_NIGHT] = night;
            rows[from + ROW_TARGET] = person;
            rows[from + ROW_CAME] = came;
            rows[from + ROW_END] = end;
            nextRow = (nextRow + 1) % MOST_ROWS;
            rowCount = Math.min(MOST_ROWS, rowCount + 1);
        }

        int row(int ago, int what) {
            if (ago < 0 || ago >= rowCount || what < 0 || what >= ROW_WIDTH) {
                return NONE;
            }
            int index = Math.floorMod(nextRow - 1 - ago, MOST_ROWS);
            return rows[index * ROW_WIDTH + what];
        }
    }

    /** The lines of the law, the condition of each as code for a stack. */
    private static final class Law {
        private final int[] kinds = new int[MOST_LAW_LINES];
        private final int[] amounts = new int[MOST_LAW_LINES];
        // The code of a line ends where that of the next one begins.
        private final int[] begins = new int[MOST_LAW_LINES + 1];
        private final int[] code = new int[MOST_BYTES];
        // Each of at most 7 conditions within one another leaves at most 2 values open, the innermost sums 3 more.
        private final int[] stack = new int[32];
        // What each word tells of the one who may come and of the other one.
        private final int[] facts = new int[MOST_WORDS];
        private int lines = NONE;
        private int codeLength = 0;
        private int height = 0;
        private int needs = 0;
        private int pans = 0;

        void clear() {
            lines = 0;
            codeLength = 0;
        }

        void copy(Law from) {
            System.arraycopy(from.kinds, 0, kinds, 0, kinds.length);
            System.arraycopy(from.amounts, 0, amounts, 0, amounts.length);
            System.arraycopy(from.begins, 0, begins, 0, begins.length);
            System.arraycopy(from.code, 0, code, 0, code.length);
            lines = from.lines;
            codeLength = from.codeLength;
        }

        void addLine(int kind, int amount) {
            if (lines >= 0 && lines < MOST_LAW_LINES) {
                kinds[lines] = kind;
                amounts[lines] = amount;
                begins[lines] = codeLength;
                lines++;
                begins[lines] = codeLength;
            }
        }

        void addCode(int op) {
            if (lines > 0 && lines <= MOST_LAW_LINES && codeLength < MOST_BYTES) {
                code[codeLength] = op;
                codeLength++;
                begins[lines] = codeLength;
            }
        }

        /** What the one needs against the other one, and its pans. */
        void weigh(Village v, int person, int other) {
            gatherFacts(v, person, other);
            needs = v.of(person, THRESHOLD);
            pans = 1;
            for (int line = 0; line < lines && line < MOST_LAW_LINES; line++) {
                int amount = holds(begins[line], begins[line + 1]) ? amounts[line] : 0;
                if (kinds[line] == WORD_NEED) {
                    needs += amount;
                } else if (kinds[line] == WORD_SPARE) {
                    needs -= amount;
                } else {
                    pans += amount;
                }
            }
            needs = Math.max(0, needs);
        }

        private void gatherFacts(Village v, int person, int other) {
            facts[WORD_WHO - FIRST_WORD] = person;
            facts[WORD_THIRST - FIRST_WORD] = v.of(person, THIRST);
            facts[WORD_THRESHOLD - FIRST_WORD] = v.of(person, THRESHOLD);
            facts[WORD_WRONG - FIRST_WORD] = v.of(other, WRONG);
            facts[WORD_PURSE - FIRST_WORD] = v.of(other, PURSE);
            facts[WORD_BORNE - FIRST_WORD] = v.target == other ? v.borne : 0;
            facts[WORD_NIGHT - FIRST_WORD] = v.night;
            facts[WORD_FEUD - FIRST_WORD] = v.of(person, FEUD) == other ? 1 : 0;
            facts[WORD_STRANGE - FIRST_WORD] = v.of(other, STRANGE);
            facts[WORD_WET - FIRST_WORD] = v.wet ? 1 : 0;
        }

        private boolean holds(int from, int to) {
            // A line without a condition always holds.
            height = 0;
            push(1);
            for (int i = from; i >= 0 && i < to && i < MOST_BYTES; i++) {
                int op = code[i];
                if (op < FIRST_WORD) {
                    push(op);
                } else if (op == WORD_NOT) {
                    push(1 - pop());
                } else if (op == WORD_AND || op == WORD_OR || op >= FIRST_SIGN) {
                    int right = pop();
                    push(joined(op, pop(), right));
                } else {
                    push(op < FIRST_WORD + MOST_WORDS ? facts[op - FIRST_WORD] : 0);
                }
            }
            return pop() != 0;
        }

        private static int joined(int op, int left, int right) {
            switch (op) {
                case SIGN_PLUS: return left + right;
                case SIGN_LESS: return left < right ? 1 : 0;
                case SIGN_MORE: return left > right ? 1 : 0;
                case WORD_AND: return left & right;
                default: return left | right;
            }
        }

        private void push(int value) {
            if (height >= 0 && height < stack.length) {
                stack[height] = value;
                height++;
            }
        }

        private int pop() {
            if (height <= 0 || height > stack.length) {
                return 0;
            }
            height--;
            return stack[height];
        }
    }

    /** Who comes to one: first all others are looked at, then they gather as often as is asked. */
    private static final class Crowd {
        private final int[] needs = new int[MOST_PEOPLE];
        private final int[] pans = new int[MOST_PEOPLE];
        private final int[] rounds = new int[MOST_PEOPLE];
        private int others = 0;
        private int came = 0;
        private int size = 0;
        private int noise = 0;
        private int lastRound = 0;

        void invite(Village v, Law law, int target) {
            others = 0;
            for (int p = 0; p < v.people && p < MOST_PEOPLE; p++) {
                if (p != target) {
                    others |= 1 << p;
                    law.weigh(v, p, target);
                    needs[p] = law.needs;
                    pans[p] = law.pans;
                }
            }
        }

        void gather(int beginners, int atHome) {
            Arrays.fill(rounds, NONE);
            came = 0;
            size = 0;
            noise = 0;
            int free = others & ~atHome;
            admit(beginners & free, 0);
            for (int round = 1; round <= MOST_PEOPLE; round++) {
                int next = willing(free & ~came);
                if (next == 0) {
                    return;
                }
                admit(next, round);
            }
        }

        int roundOf(int person) {
            return person >= 0 && person < MOST_PEOPLE ? rounds[person] : NONE;
        }

        int needsOf(int person) {
            return person >= 0 && person < MOST_PEOPLE ? needs[person] : 0;
        }

        int pansOf(int person) {
            return person >= 0 && person < MOST_PEOPLE ? pans[person] : 0;
        }

        private int willing(int absent) {
            int set = 0;
            for (int p = 0; p < MOST_PEOPLE; p++) {
                if (hasBit(absent, p) && needs[p] <= size) {
                    set |= 1 << p;
                }
            }
            return set;
        }

        private void admit(int set, int round) {
            lastRound = round;
            came |= set;
            size += Integer.bitCount(set);
            for (int p = 0; p < MOST_PEOPLE; p++) {
                if (hasBit(set, p)) {
                    rounds[p] = round;
                    noise += pans[p];
                }
            }
        }
    }

    /** The states ahead of the latest acts. */
    private static final class Past {
        private final Village[] states = new Village[MOST_ACTS];
        private int size = 0;
        private int next = 0;

        Past() {
            for (int i = 0; i < MOST_ACTS; i++) {
                states[i] = new Village();
            }
        }

        void remember(Village v) {
            Village state = stateAt(next);
            if (state == null) {
                return;
            }
            state.copy(v);
            next = (next + 1) % MOST_ACTS;
            size = Math.min(MOST_ACTS, size + 1);
        }

        boolean restore(Village v) {
            int latest = (next + MOST_ACTS - 1) % MOST_ACTS;
            Village state = stateAt(latest);
            if (size <= 0 || state == null) {
                return false;
            }
            v.copy(state);
            next = latest;
            size--;
            return true;
        }

        void forget() {
            size = 0;
        }

        private Village stateAt(int index) {
            return index >= 0 && index < states.length ? states[index] : null;
        }
    }

    /** Sets of beginners that fit: how many, who is in all, and how many each one is in. */
    private static final class Sets {
        private final int[] with = new int[MOST_PEOPLE];
        private int found = 0;
        private int inAll = 0;

        void clear() {
            Arrays.fill(with, 0);
            found = 0;
            inAll = 0;
        }

        void add(int set) {
            inAll = found == 0 ? set : inAll & set;
            found++;
            for (int p = 0; p < MOST_PEOPLE; p++) {
                with[p] += hasBit(set, p) ? 1 : 0;
            }
        }

        int bestToAsk(int all) {
            int best = NONE;
            int least = found;
            for (int p = 0; p < MOST_PEOPLE && found >= 2; p++) {
                int greater = Math.max(with[p], found - with[p]);
                if (hasBit(all, p) && (best == NONE || greater < least)) {
                    least = greater;
                    best = p;
                }
            }
            return best;
        }
    }

    /** What the one loses and the village has by each two choices. */
    private static final class Game {
        private final int[] losses = new int[CELLS];
        private final int[] gains = new int[CELLS];

        void put(int choice, int side, int loss, int gain) {
            int cell = 2 * choice + side;
            if (cell >= 0 && cell < CELLS) {
                losses[cell] = loss;
                gains[cell] = gain;
            }
        }

        int restingCells() {
            int set = 0;
            for (int cell = 0; cell < CELLS; cell++) {
                if (losses[cell] == leastLoss(cell % 2) && gains[cell] >= gains[cell ^ 1]) {
                    set |= 1 << cell;
                }
            }
            return set;
        }

        private int leastLoss(int side) {
            int least = losses[side & 1];
            for (int choice = 1; choice < CHOICES; choice++) {
                least = Math.min(least, losses[2 * choice + (side & 1)]);
            }
            return least;
        }
    }

    /** The tape, and the things in a text that was on it: words, numbers, signs. */
    private static final class Text {
        private final int[] bytes = new int[MOST_BYTES];
        // One more than there are bytes: the end of the text is a thing, too.
        private final int[] things = new int[MOST_BYTES + 1];
        private final int[] places = new int[MOST_BYTES + 1];
        private int length = 0;
        private int limit = 0;
        private int thingCount = 0;
        private int next = 0;
        private int wrong = NONE;

        boolean hasRoom(int more) {
            return length + more <= MOST_BYTES;
        }

        void put(int number) {
            for (int shift = 24; shift >= 0 && length < MOST_BYTES; shift -= 8) {
                bytes[length] = number >>> shift & 255;
                length++;
            }
        }

        /** The tape is empty then; its bytes can be read till the next ones come. */
        void useUp() {
            limit = length;
            length = 0;
        }

        int byteAt(int index) {
            return index >= 0 && index < limit && index < MOST_BYTES ? bytes[index] : NONE;
        }

        void split() {
            thingCount = 0;
            next = 0;
            wrong = NONE;
            int at = 0;
            while (at < limit) {
                int to = Math.max(at + 1, endOfRun(at));
                if (byteAt(at) != ' ') {
                    addThing(thingOf(at, to), at);
                }
                at = to;
            }
            addThing(TEXT_OVER, limit);
        }

        /** What comes next; nothing that can stand anywhere, once something was wrong. */
        int nextThing() {
            return wrong == NONE && next < thingCount ? things[next] : NO_SUCH_THING;
        }

        boolean take(int thing) {
            if (wrong != NONE || next >= thingCount || things[next] != thing) {
                return false;
            }
            next++;
            return true;
        }

        /** None, if no such number comes next: that is wrong then. */
        int takeNumber(int most) {
            int number = nextThing();
            if (number > most || number > MOST_NUMBER) {
                fail();
                return NONE;
            }
            next++;
            return number;
        }

        int takeNumberAfter(int word, int most) {
            if (!take(word)) {
                fail();
                return NONE;
            }
            return takeNumber(most);
        }

        /** What comes next cannot stand there; only the first such place counts. Always false. */
        boolean fail() {
            if (wrong == NONE) {
                wrong = next < thingCount ? places[next] : limit;
            }
            return false;
        }

        private int endOfRun(int from) {
            boolean letters = isLetter(byteAt(from));
            int to = from;
            while (to < limit && (letters ? isLetter(byteAt(to)) : isDigit(byteAt(to)))) {
                to++;
            }
            return to;
        }

        private int thingOf(int from, int to) {
            int sign = byteAt(from);
            if (isLetter(sign)) {
                return wordOf(from, to);
            }
            return isDigit(sign) ? numberOf(from, to) : FIRST_SIGN + sign;
        }

        private int numberOf(int from, int to) {
            if (to - from > MOST_DIGITS) {
                return NO_SUCH_THING;
            }
            int number = 0;
            for (int i = from; i < to; i++) {
                number = 10 * number + byteAt(i) - '0';
            }
            return number;
        }

        private int wordOf(int from, int to) {
            int word = FIRST_WORD;
            int alike = 0;
            for (int i = 0; i <= WORDS.length(); i++) {
                char sign = i < WORDS.length() ? WORDS.charAt(i) : ' ';
                if (sign != ' ') {
                    alike = alike != NONE && from + alike < to && byteAt(from + alike) == sign ? alike + 1 : NONE;
                } else if (alike == to - from) {
                    return word;
                } else {
                    word++;
                    alike = 0;
                }
            }
            return NO_SUCH_THING;
        }

        private void addThing(int thing, int place) {
            if (thingCount >= 0 && thingCount < things.length) {
                things[thingCount] = thing;
                places[thingCount] = place;
                thingCount++;
            }
        }

        private static boolean isLetter(int sign) {
            return sign >= 'a' && sign <= 'z';
        }

        private static boolean isDigit(int sign) {
            return sign >= '0' && sign <= '9';
        }
    }

    /** Lines with ; between them; where they are wrong, the text knows the place. */
    private abstract static class LineReader {
        final Text text;

        LineReader(Text text) {
            this.text = text;
        }

        abstract boolean readLine();

        boolean readLines(int most) {
            if (text.nextThing() == TEXT_OVER) {
                return true;
            }
            for (int line = 0; line < most; line++) {
                if (!readLine()) {
                    return false;
                }
                if (text.nextThing() == TEXT_OVER) {
                    return true;
                }
                if (!text.take(SIGN_NEXT)) {
                    return text.fail();
                }
            }
            return text.fail();
        }
    }

    private static final class VillageReader extends LineReader {
        private final Village draft;

        VillageReader(Text text, Village draft) {
            super(text);
            this.draft = draft;
        }

        boolean readLine() {
            switch (text.nextThing()) {
                case WORD_PERSON: return readPerson();
                case WORD_WRONG: return readWrong();
                case WORD_FEUD: return readFeud();
                case WORD_TARGET: return readTarget();
                default: return readSetting();
            }
        }

        private boolean readPerson() {
            if (draft.people >= MOST_PEOPLE || !text.take(WORD_PERSON)) {
                return text.fail();
            }
            int threshold = text.takeNumberAfter(WORD_NEEDS, MOST_THRESHOLD);
            int thirst = text.takeNumberAfter(WORD_THIRST, MOST_THIRST);
            int pride = text.takeNumberAfter(WORD_PRIDE, MOST_PRIDE);
            int purse = text.takeNumberAfter(WORD_PURSE, MOST_NUMBER);
            boolean strange = text.take(WORD_STRANGE);
            boolean begins = text.take(WORD_BEGINS);
            if (text.wrong != NONE) {
                return false;
            }
            int person = draft.addPerson();
            draft.tell(person, THRESHOLD, threshold);
            draft.tell(person, THIRST, thirst);
            draft.tell(person, PRIDE, pride);
            draft.tell(person, PURSE, purse);
            draft.tell(person, STRANGE, strange ? 1 : 0);
            draft.tell(person, BEGINS, begins ? 1 : 0);
            return true;
        }

        private boolean readWrong() {
            int person = text.takeNumberAfter(WORD_WRONG, draft.people - 1);
            int amount = text.takeNumber(MOST_WRONG);
            if (text.wrong != NONE) {
                return false;
            }
            draft.tell(person, WRONG, amount);
            return true;
        }

        private boolean readFeud() {
            int person = text.takeNumberAfter(WORD_FEUD, draft.people - 1);
            // A number in the text is its own thing, so that the same person is seen ahead of being taken.
            if (!text.take(WORD_WITH) || text.nextThing() == person) {
                return text.fail();
            }
            int other = text.takeNumber(draft.people - 1);
            if (text.wrong != NONE) {
                return false;
            }
            draft.tell(person, FEUD, other);
            return true;
        }

        private boolean readTarget() {
            int person = text.takeNumberAfter(WORD_TARGET, draft.people - 1);
            if (text.wrong != NONE) {
                return false;
            }
            draft.aim(person);
            return true;
        }

        private boolean readSetting() {
            switch (text.nextThing()) {
                case WORD_RAIN:
                    draft.rain = text.takeNumberAfter(WORD_RAIN, MOST_RAIN);
                    break;
                case WORD_WATCH:
                    draft.watch = text.takeNumberAfter(WORD_WATCH, MOST_WATCH);
                    break;
                case WORD_FINE:
                    draft.fine = text.takeNumberAfter(WORD_FINE, MOST_FINE);
                    break;
                case WORD_ALE:
                    draft.ale = text.takeNumberAfter(WORD_ALE, MOST_ALE);
                    break;
                case WORD_NIGHT:
                    draft.night = text.takeNumberAfter(WORD_NIGHT, MOST_NUMBER);
                    break;
                default:
                    return text.fail();
            }
            return text.wrong == NONE;
        }
    }

    /** Leaves each condition as code: what is joined comes ahead of what joins it. */
    private static final class LawReader extends LineReader {
        private final Law draft;

        LawReader(Text text, Law draft) {
            super(text);
            this.draft = draft;
        }

        boolean readLine() {
            int kind = text.nextThing();
            if (kind != WORD_NEED && kind != WORD_SPARE && kind != WORD_PAN) {
                return text.fail();
            }
            int amount = text.takeNumberAfter(kind, MOST_AMOUNT);
            if (amount == NONE) {
                return false;
            }
            draft.addLine(kind, amount);
            return !text.take(WORD_IF) || readCondition(0);
        }

        private boolean readCondition(int deep) {
            boolean afterOr = false;
            boolean afterAnd = false;
            for (int i = 0; i < MOST_BYTES; i++) {
                if (!readAtom(deep)) {
                    return false;
                }
                if (afterAnd) {
                    draft.addCode(WORD_AND);
                }
                afterAnd = text.take(WORD_AND);
                if (!afterAnd) {
                    if (afterOr) {
                        draft.addCode(WORD_OR);
                    }
                    afterOr = text.take(WORD_OR);
                    if (!afterOr) {
                        return true;
                    }
                }
            }
            return text.fail();
        }

        private boolean readAtom(int deep) {
            int thing = text.nextThing();
            boolean nests = thing == WORD_NOT || thing == SIGN_OPEN;
            if (nests && deep >= MOST_DEEP) {
                return text.fail();
            }
            if (text.take(SIGN_OPEN)) {
                return readCondition(deep + 1) && (text.take(SIGN_CLOSE) || text.fail());
            }
            if (text.take(WORD_NOT)) {
                boolean read = readAtom(deep + 1);
                draft.addCode(WORD_NOT);
                return read;
            }
            if (thing == WORD_FEUD || thing == WORD_STRANGE || thing == WORD_WET) {
                draft.addCode(thing);
                return text.take(thing);
            }
            return readComparison();
        }

        private boolean readComparison() {
            if (!readSum()) {
                return false;
            }
            int sign = text.nextThing();
            if (sign != SIGN_LESS && sign != SIGN_MORE || !text.take(sign)) {
                return text.fail();
            }
            boolean read = readSum();
            draft.addCode(sign);
            return read;
        }

        private boolean readSum() {
            boolean afterPlus = false;
            for (int i = 0; i < MOST_BYTES; i++) {
                int part = text.nextThing();
                if (!isSumPart(part) || !text.take(part)) {
                    return text.fail();
                }
                draft.addCode(part);
                if (afterPlus) {
                    draft.addCode(SIGN_PLUS);
                }
                afterPlus = text.take(SIGN_PLUS);
                if (!afterPlus) {
                    return true;
                }
            }
            return text.fail();
        }

        private static boolean isSumPart(int thing) {
            switch (thing) {
                case WORD_WHO:
                case WORD_THIRST:
                case WORD_THRESHOLD:
                case WORD_WRONG:
                case WORD_PURSE:
                case WORD_BORNE:
                case WORD_NIGHT:
                    return true;
                default:
                    return thing <= MOST_NUMBER;
            }
        }
    }
}
