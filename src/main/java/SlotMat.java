import java.util.Arrays;
import java.util.NoSuchElementException;

/** Pillar boxes that hold what has not been written; ../shared/DOC.md says what each call answers. */
public final class SlotMat {
    public static final int NONE = -1;

    private static final int MOST_BOXES = 6;
    private static final int MOST_PEOPLE = 8;
    private static final int MOST_ROUND = 8;
    private static final int MOST_WET = 8;
    private static final int MOST_PLACE = 30;
    private static final int MOST_RED = 99;
    private static final int MOST_PENSIVE = 9;
    private static final int MOST_WETNESS = 9;
    private static final int MOST_NUMBER = 9999;
    private static final int MOST_DIGITS = 4;
    private static final int MOST_HEARD = 9999;
    private static final int MOST_REGRET = 999;
    private static final int MOST_HELD_OF_ONE = 99;
    private static final int MOST_THOUGHT_A_DAY = 9;
    private static final int MOST_SOUND = 99;
    private static final int LAST_DAY = 999;
    private static final int TAPE_BYTES = 700;
    private static final int FED_BYTES = 20;
    private static final int MOST_AHEAD = 40;
    private static final int MOST_ACTS = 40;
    private static final int MOST_NOTES = 8;
    private static final int ASK_DAYS = 5;
    private static final int GAME_DAYS = 3;

    // Where each thing stands in the row of a State.
    private static final int DAY = 0;
    private static final int STRIKE = 1;
    private static final int RED = 2;
    private static final int REGRET = RED + MOST_BOXES;
    private static final int HEARD = REGRET + MOST_PEOPLE;
    private static final int AT = HEARD + MOST_PEOPLE;
    private static final int HELD = AT + MOST_PEOPLE;
    private static final int CELLS = HELD + MOST_BOXES * MOST_PEOPLE;

    private static final int REFUSED_TEXTS = 0;
    private static final int REFUSED_ACTS = 1;
    private static final int REFUSED_NOTES = 2;

    private final byte[] tape = new byte[TAPE_BYTES];
    private int tapeBytes = 0;
    private final CityReader reader = new CityReader();
    private int faultPlace = NONE;
    private final int[] refused = new int[3];

    private City town = new City();
    private City nextTown = new City();
    private final State now = new State();
    private final State future = new State();
    private final Acts acts = new Acts();
    private final Notes notes = new Notes();

    private boolean hasImage = false;
    private final State imageNow = new State();
    private final Acts imageActs = new Acts();
    private final Notes imageNotes = new Notes();

    private final OrderSearch orders = new OrderSearch();
    private final int[] heardByThoughts = new int[MOST_PEOPLE * MOST_PEOPLE * MOST_PEOPLE];
    private final int[] gains = new int[8];
    private int seedNow = 0;

    public SlotMat() {
    }

    // ---- the text ----

    public int feed(int a, int b, int c, int d, int e) {
        if (tapeBytes > TAPE_BYTES - FED_BYTES) {
            return NONE;
        }
        putBytes(a);
        putBytes(b);
        putBytes(c);
        putBytes(d);
        putBytes(e);
        return tapeBytes;
    }

    private void putBytes(int four) {
        for (int shift = 24; shift >= 0; shift -= 8) {
            if (tapeBytes < tape.length) {
                tape[tapeBytes] = (byte) (four >>> shift);
                tapeBytes++;
            }
        }
    }

    public int city(int n) throws IllegalArgumentException {
        if (n < 0 || n > tapeBytes) {
            throw new IllegalArgumentException("the tape has not so many bytes");
        }
        tapeBytes = 0;
        int fault = reader.read(tape, n, nextTown);
        faultPlace = reader.placeOfFault();
        if (fault != 0) {
            refused[REFUSED_TEXTS]++;
            return fault;
        }
        City old = town;
        town = nextTown;
        nextTown = old;
        now.begin(town);
        acts.clearAll();
        notes.clearAll();
        hasImage = false;
        orders.clearAll();
        return 0;
    }

    public int fault() {
        return faultPlace;
    }

    // ---- what is so now ----

    public int count(int what) throws NoSuchElementException {
        switch (what) {
            case 0: return town.boxes;
            case 1: return town.people;
            case 2: return now.dayNow();
            case 3: return town.wetOn(now.dayNow());
            case 4: return now.onStrike() ? 1 : 0;
            case 5: return town.boxOn(now.dayNow());
            case 6: return now.heldInAll();
            case 7: return now.heardByAll();
            case 8: return town.mutualCouples(now);
            case 9: return town.unthoughtBits(now);
            case 10: return acts.many;
            case 11: return notes.many;
            case 12: return tapeBytes;
            case 13: return refused[REFUSED_TEXTS];
            case 14: return refused[REFUSED_ACTS];
            case 15: return refused[REFUSED_NOTES];
            default: throw new NoSuchElementException("no such what");
        }
    }

    public int box(int box, int what) throws NoSuchElementException {
        needBox(box);
        switch (what) {
            case 0: return town.boxPlace[box];
            case 1: return now.redOf(box);
            case 2: return now.heldIn(box);
            case 3: return town.nearBits(box);
            case 4: return town.farthestFrom(box);
            default: throw new NoSuchElementException("no such what");
        }
    }

    public int person(int person, int what) throws NoSuchElementException {
        needPerson(person);
        switch (what) {
            case 0: return town.place[person];
            case 1: return town.pensive[person];
            case 2: return now.atOf(person);
            case 3: return now.regretOf(person);
            case 4: return now.heardBy(person);
            case 5: return town.nearest[person];
            case 6: return town.fanBits(now, person);
            case 7: return town.neighbourBits(person);
            default: throw new NoSuchElementException("no such what");
        }
    }

    public int held(int box, int person) throws NoSuchElementException {
        needBox(box);
        needPerson(person);
        return now.heldOf(box, person);
    }

    // ---- acts ----

    public int days(int many) {
        if (many < 1 || many > 20 || now.dayNow() + many > LAST_DAY) {
            refused[REFUSED_ACTS]++;
            return NONE;
        }
        acts.keep(now);
        for (int i = 0; i < many; i++) {
            town.passDay(now);
        }
        return now.dayNow();
    }

    public int write(int person) throws NoSuchElementException {
        needPerson(person);
        int to = now.atOf(person);
        if (to == NONE) {
            refused[REFUSED_ACTS]++;
            return NONE;
        }
        acts.keep(now);
        now.sendLetter(person);
        return now.heardBy(to);
    }

    public int paint(int box) throws NoSuchElementException {
        needBox(box);
        int red = now.redOf(box);
        if (red == MOST_RED) {
            refused[REFUSED_ACTS]++;
            return NONE;
        }
        acts.keep(now);
        now.setRed(box, MOST_RED);
        return red;
    }

    public int turn(int person, int other) throws NoSuchElementException {
        needPerson(person);
        if (other != NONE) {
            needPerson(other);
        }
        int at = now.atOf(person);
        if (other == at || other == person) {
            refused[REFUSED_ACTS]++;
            return -2;
        }
        acts.keep(now);
        now.turnTo(person, other);
        return at;
    }

    public boolean strike(boolean is) {
        if (is == now.onStrike()) {
            refused[REFUSED_ACTS]++;
            return false;
        }
        acts.keep(now);
        now.setStrike(is);
        return true;
    }

    public int undo() {
        if (acts.many == 0) {
            return NONE;
        }
        acts.takeBack(now);
        return acts.many;
    }

    // ---- what will be so, if only days go by ----

    public int then(int box, int days, int what) throws NoSuchElementException, IllegalArgumentException {
        needBox(box);
        needWhat(what, 1);
        needRange(days, 0, MOST_AHEAD);
        lookAhead(days);
        return what == 0 ? future.heldIn(box) : future.redOf(box);
    }

    public int later(int person, int days, int what) throws NoSuchElementException, IllegalArgumentException {
        needPerson(person);
        needWhat(what, 1);
        needRange(days, 0, MOST_AHEAD);
        lookAhead(days);
        return what == 0 ? future.regretOf(person) : future.heardBy(person);
    }

    public int first(int person) throws NoSuchElementException {
        needPerson(person);
        future.copyFrom(now);
        for (int behind = 1; behind <= MOST_AHEAD; behind++) {
            town.passDay(future);
            if (future.heardBy(person) > now.heardBy(person)) {
                return behind;
            }
        }
        return NONE;
    }

    public int full(int box, int many) throws NoSuchElementException, IllegalArgumentException {
        needBox(box);
        needRange(many, 1, MOST_PEOPLE * MOST_HELD_OF_ONE);
        future.copyFrom(now);
        for (int behind = 0; behind <= MOST_AHEAD; behind++) {
            if (future.heldIn(box) >= many) {
                return behind;
            }
            town.passDay(future);
        }
        return NONE;
    }

    public int most(int days, int what) throws NoSuchElementException, IllegalArgumentException {
        needWhat(what, 4);
        needRange(days, 0, MOST_AHEAD);
        int fetched = lookAhead(days);
        switch (what) {
            case 0: return town.fullestBox(future);
            case 1: return town.loudestPerson(future);
            case 2: return fetched;
            case 3: return town.saddestPerson(future);
            default: return town.emptyBits(future);
        }
    }

    /** Puts what is so behind these days into future; answers how many thoughts are fetched in them. */
    private int lookAhead(int days) {
        future.copyFrom(now);
        int fetched = 0;
        for (int i = 0; i < days; i++) {
            fetched += town.passDay(future);
        }
        return fetched;
    }

    // ---- who thinks at whom, and where boxes stand ----

    public int ring(int person) throws NoSuchElementException {
        needPerson(person);
        int bits = town.reachedBits(now, person);
        return (bits >> person & 1) == 1 ? bits : 0;
    }

    public int comesTo(int person) throws NoSuchElementException {
        needPerson(person);
        return town.reachedBits(now, person);
    }

    public int toCover(int far) throws IllegalArgumentException {
        needRange(far, 0, MOST_PLACE);
        return town.fewestCovering(far);
    }

    public int oneMore(int what) throws NoSuchElementException {
        needWhat(what, 1);
        int best = town.bestPlace(true);
        return what == 0 ? best : town.waysWith(best, true);
    }

    public int order(int i) throws NoSuchElementException {
        if (i != NONE) {
            needBox(i);
        } else if (town.boxes == 0) {
            return NONE;
        }
        orders.search(town, now);
        return i == NONE ? orders.gained() : orders.boxAt(i);
    }

    // ---- what is noted ----

    public int note(int person, int days, int heard) throws NoSuchElementException {
        needPerson(person);
        if (notes.many >= MOST_NOTES || days < 0 || days > 20 || heard < 0 || heard > MOST_HEARD) {
            refused[REFUSED_NOTES]++;
            return NONE;
        }
        notes.put(person, days, heard);
        return notes.many;
    }

    public void forget() {
        notes.clearAll();
    }

    public int thought(int what) throws NoSuchElementException {
        needWhat(what, 2);
        if (what == 2) {
            future.copyFrom(now);
            return futureAgrees() ? 1 : 0;
        }
        int many = 0;
        int earliest = NONE;
        for (int who = 0; who < town.people; who++) {
            for (int whom = 0; whom < town.people; whom++) {
                if (turnFuture(who, whom) && futureAgrees()) {
                    many++;
                    earliest = earliest == NONE ? 10 * who + whom : earliest;
                }
            }
        }
        return what == 0 ? many : earliest;
    }

    /** Lets future begin as it is now, but that one thinks at another one; false if that would be nothing else. */
    private boolean turnFuture(int who, int whom) {
        if (whom == who || whom == now.atOf(who)) {
            return false;
        }
        future.copyFrom(now);
        future.turnTo(who, whom);
        return true;
    }

    /** Lets days go by in future as far as the notes reach. */
    private boolean futureAgrees() {
        int last = notes.lastDay();
        for (int behind = 0; behind <= last; behind++) {
            if (!notes.agree(behind, future)) {
                return false;
            }
            if (behind < last) {
                town.passDay(future);
            }
        }
        return true;
    }

    public int ask(int what) throws NoSuchElementException {
        needWhat(what, 1);
        int rows = gatherHeardByThoughts();
        int best = NONE;
        int mostUnlike = 0;
        for (int person = 0; person < town.people; person++) {
            int unlike = countUnlike(person, rows);
            if (unlike > mostUnlike) {
                best = person;
                mostUnlike = unlike;
            }
        }
        return what == 0 ? best : mostUnlike;
    }

    /** Keeps, for each thought that agrees with what is noted, what each one has heard then; answers how many. */
    private int gatherHeardByThoughts() {
        int rows = 0;
        for (int who = 0; who < town.people; who++) {
            for (int whom = 0; whom < town.people; whom++) {
                if (turnFuture(who, whom) && futureAgrees() && rows < MOST_PEOPLE * MOST_PEOPLE) {
                    lookAheadTurned(who, whom, ASK_DAYS);
                    for (int person = 0; person < town.people; person++) {
                        heardByThoughts[rows * MOST_PEOPLE + person] = future.heardBy(person);
                    }
                    rows++;
                }
            }
        }
        return rows;
    }

    private void lookAheadTurned(int who, int whom, int days) {
        future.copyFrom(now);
        future.turnTo(who, whom);
        for (int i = 0; i < days; i++) {
            town.passDay(future);
        }
    }

    private int countUnlike(int person, int rows) {
        int unlike = 0;
        for (int row = 0; row < rows; row++) {
            if (isNewSum(person, row)) {
                unlike++;
            }
        }
        return unlike;
    }

    private boolean isNewSum(int person, int row) {
        int sum = heardByThoughts[row * MOST_PEOPLE + person];
        for (int earlier = 0; earlier < row; earlier++) {
            if (heardByThoughts[earlier * MOST_PEOPLE + person] == sum) {
                return false;
            }
        }
        return true;
    }

    // ---- wet nights, a game, years ----

    public int wetNights(int person, int much, int days, int tenths)
            throws NoSuchElementException, IllegalArgumentException {
        needPerson(person);
        needRange(much, 0, MOST_HEARD);
        needRange(days, 1, 5);
        needRange(tenths, 0, 10);
        int likely = 0;
        for (int wetBits = 0; wetBits < 1 << days; wetBits++) {
            int weight = weightOf(wetBits, days, tenths);
            if (weight > 0 && heardByNights(person, wetBits, days) >= much) {
                likely += weight;
            }
        }
        return likely;
    }

    private static int weightOf(int wetBits, int days, int tenths) {
        int weight = 1;
        for (int i = 0; i < days; i++) {
            weight *= (wetBits >> i & 1) == 1 ? tenths : 10 - tenths;
        }
        return weight;
    }

    private int heardByNights(int person, int wetBits, int days) {
        future.copyFrom(now);
        for (int i = 0; i < days; i++) {
            int wet = (wetBits >> i & 1) == 1 ? 9 : 0;
            town.passDayWith(future, wet, town.boxOn(future.dayNow()));
        }
        return future.heardBy(person);
    }

    public int game(int person, int other, int what) throws NoSuchElementException, IllegalArgumentException {
        needPerson(person);
        needPerson(other);
        needWhat(what, 1);
        if (person == other) {
            throw new IllegalArgumentException("both are one");
        }
        if (now.atOf(person) == NONE || now.atOf(other) == NONE) {
            return NONE;
        }
        for (int couple = 0; couple < 4; couple++) {
            weighCouple(person, other, couple);
        }
        int many = 0;
        int earliest = NONE;
        for (int couple = 0; couple < 4; couple++) {
            if (coupleRests(couple)) {
                many++;
                earliest = earliest == NONE ? 10 * (couple >> 1) + (couple & 1) : earliest;
            }
        }
        return what == 0 ? many : earliest;
    }

    /** A couple is 2 by the first one's choice, and the other one's. */
    private void weighCouple(int person, int other, int couple) {
        int choice = couple >> 1 & 1;
        int otherChoice = couple & 1;
        future.copyFrom(now);
        for (int writer = 0; writer < town.people; writer++) {
            if (writer == person && choice == 1 || writer == other && otherChoice == 1) {
                future.sendLetter(writer);
            }
        }
        for (int i = 0; i < GAME_DAYS; i++) {
            town.passDay(future);
        }
        gains[2 * couple] = gainOf(person, choice);
        gains[2 * couple + 1] = gainOf(other, otherChoice);
    }

    private int gainOf(int person, int choice) {
        return future.heardBy(person) / 5 - future.regretOf(person) / 5 - 2 * choice;
    }

    private boolean coupleRests(int couple) {
        boolean personRests = gains[2 * couple] >= gains[2 * (couple ^ 2)];
        boolean otherRests = gains[2 * couple + 1] >= gains[2 * (couple ^ 1) + 1];
        return personRests && otherRests;
    }

    public int years(int seed, int n, int what) throws NoSuchElementException, IllegalArgumentException {
        needWhat(what, 2);
        needRange(n, 0, MOST_AHEAD);
        future.copyFrom(now);
        seedNow = seed;
        for (int i = 0; i < n; i++) {
            int wet = draw(10);
            if (town.people > 0) {
                drawAct();
            }
            town.passDayWith(future, wet, town.boxOn(future.dayNow()));
        }
        switch (what) {
            case 0: return future.heardByAll() - now.heardByAll();
            case 1: return future.regretOfAll();
            default: return future.heldInAll();
        }
    }

    private void drawAct() {
        int who = draw(town.people);
        int act = draw(6);
        if (act == 0) {
            future.sendLetter(who);
        } else if (act == 1) {
            int whom = draw(town.people);
            future.turnTo(who, whom == who ? NONE : whom);
        } else if (act == 2) {
            future.setStrike(!future.onStrike());
        }
    }

    private int draw(int many) {
        seedNow = seedNow * 1103515245 + 12345;
        return many < 1 ? 0 : (seedNow >>> 16 & 32767) % many;
    }

    // ---- other questions ----

    public int pale(int box, int red) throws NoSuchElementException, IllegalArgumentException {
        needBox(box);
        needRange(red, 0, MOST_RED);
        future.copyFrom(now);
        for (int behind = 0; behind <= MOST_AHEAD; behind++) {
            if (future.redOf(box) <= red) {
                return behind;
            }
            town.passDay(future);
        }
        return NONE;
    }

    public int visits(int box, int days) throws NoSuchElementException, IllegalArgumentException {
        needBox(box);
        needRange(days, 1, 60);
        int many = 0;
        for (int i = 0; i < days; i++) {
            if (town.boxOn(now.dayNow() + i) == box) {
                many++;
            }
        }
        return many;
    }

    public int steps(int person, int other) throws NoSuchElementException {
        needPerson(person);
        needPerson(other);
        int reached = person;
        for (int steps = 0; steps < MOST_PEOPLE && reached != NONE; steps++) {
            if (reached == other) {
                return steps;
            }
            reached = now.atOf(reached);
        }
        return NONE;
    }

    public int quiet(int person, int days) throws NoSuchElementException, IllegalArgumentException {
        needPerson(person);
        needRange(days, 1, MOST_AHEAD);
        future.copyFrom(now);
        int longest = 0;
        int row = 0;
        for (int i = 0; i < days; i++) {
            int before = future.heardBy(person);
            town.passDay(future);
            row = future.heardBy(person) == before ? row + 1 : 0;
            longest = Math.max(longest, row);
        }
        return longest;
    }

    public int middle() {
        return town.bestPlace(false);
    }

    public int bestAt(int person, int days) throws NoSuchElementException, IllegalArgumentException {
        needPerson(person);
        needRange(days, 1, MOST_AHEAD);
        int best = NONE;
        int mostHeard = NONE;
        for (int other = 0; other < town.people; other++) {
            if (other != person) {
                lookAheadTurned(person, other, days);
                if (future.heardBy(other) > mostHeard) {
                    best = other;
                    mostHeard = future.heardBy(other);
                }
            }
        }
        return best;
    }

    public int reds(int days) throws IllegalArgumentException {
        needRange(days, 0, MOST_AHEAD);
        lookAhead(days);
        return future.redOfAll();
    }

    public int whose(int box) throws NoSuchElementException {
        needBox(box);
        int best = NONE;
        int mostHeld = 0;
        for (int person = 0; person < town.people; person++) {
            if (now.heldOf(box, person) > mostHeld) {
                best = person;
                mostHeld = now.heldOf(box, person);
            }
        }
        return best;
    }

    // ---- the image ----

    public void image() {
        imageNow.copyFrom(now);
        imageActs.copyFrom(acts);
        imageNotes.copyFrom(notes);
        hasImage = true;
    }

    public boolean restore() {
        if (!hasImage) {
            return false;
        }
        now.copyFrom(imageNow);
        acts.copyFrom(imageActs);
        notes.copyFrom(imageNotes);
        return true;
    }

    // ---- what calls refuse ----

    private void needBox(int box) {
        if (box < 0 || box >= town.boxes) {
            throw new NoSuchElementException("no such box");
        }
    }

    private void needPerson(int person) {
        if (person < 0 || person >= town.people) {
            throw new NoSuchElementException("no such person");
        }
    }

    private static void needWhat(int what, int most) {
        if (what < 0 || what > most) {
            throw new NoSuchElementException("no such what");
        }
    }

    private static void needRange(int value, int least, int most) {
        if (value < least || value > most) {
            throw new IllegalArgumentException("a number is out of its range");
        }
    }

    private static int keptWithin(int value, int least, int most) {
        if (value < least) {
            return least;
        }
        return value > most ? most : value;
    }

    /** What days and acts change; one row, so that to keep it or to undo it is one copy. */
    private static final class State {
        private final int[] cells = new int[CELLS];

        State() {
            Arrays.fill(cells, AT, AT + MOST_PEOPLE, NONE);
        }

        void begin(City city) {
            Arrays.fill(cells, 0);
            System.arraycopy(city.boxRed, 0, cells, RED, MOST_BOXES);
            System.arraycopy(city.at, 0, cells, AT, MOST_PEOPLE);
        }

        void copyFrom(State other) {
            System.arraycopy(other.cells, 0, cells, 0, CELLS);
        }

        boolean isLike(State other) {
            for (int i = 0; i < CELLS; i++) {
                if (cells[i] != other.cells[i]) {
                    return false;
                }
            }
            return true;
        }

        int dayNow() {
            return cells[DAY];
        }

        void nextDay() {
            cells[DAY]++;
        }

        boolean onStrike() {
            return cells[STRIKE] == 1;
        }

        void setStrike(boolean is) {
            cells[STRIKE] = is ? 1 : 0;
        }

        int redOf(int box) {
            return cells[RED + box];
        }

        void setRed(int box, int red) {
            cells[RED + box] = red;
        }

        int redOfAll() {
            return sumOf(RED, MOST_BOXES);
        }

        int regretOf(int person) {
            return cells[REGRET + person];
        }

        int regretOfAll() {
            return sumOf(REGRET, MOST_PEOPLE);
        }

        int heardBy(int person) {
            return cells[HEARD + person];
        }

        int heardByAll() {
            return sumOf(HEARD, MOST_PEOPLE);
        }

        void hear(int person, int more) {
            cells[HEARD + person] = Math.min(MOST_HEARD, cells[HEARD + person] + more);
        }

        int atOf(int person) {
            return cells[AT + person];
        }

        void turnTo(int person, int other) {
            cells[AT + person] = other;
        }

        int heldOf(int box, int person) {
            return cells[HELD + box * MOST_PEOPLE + person];
        }

        int heldIn(int box) {
            return sumOf(HELD + box * MOST_PEOPLE, MOST_PEOPLE);
        }

        int heldInAll() {
            return sumOf(HELD, MOST_BOXES * MOST_PEOPLE);
        }

        void think(int box, int person, int many) {
            int cell = HELD + box * MOST_PEOPLE + person;
            cells[cell] = Math.min(MOST_HELD_OF_ONE, cells[cell] + many);
            cells[REGRET + person] = Math.min(MOST_REGRET, cells[REGRET + person] + many);
        }

        /** The box holds none of one's thoughts any more, and as much of the regret is gone. */
        void letGo(int box, int person) {
            int cell = HELD + box * MOST_PEOPLE + person;
            cells[REGRET + person] = Math.max(0, cells[REGRET + person] - cells[cell]);
            cells[cell] = 0;
        }

        /** Nothing happens if one thinks at nobody. */
        void sendLetter(int person) {
            int to = atOf(person);
            if (to == NONE) {
                return;
            }
            int all = 0;
            for (int box = 0; box < MOST_BOXES; box++) {
                all += heldOf(box, person);
                cells[HELD + box * MOST_PEOPLE + person] = 0;
            }
            hear(to, 9 + all);
            cells[REGRET + person] = 0;
        }

        private int sumOf(int start, int many) {
            int sum = 0;
            for (int i = start; i < start + many; i++) {
                sum += cells[i];
            }
            return sum;
        }
    }

    /** What a text tells: it stays as it is until the next text. */
    private static final class City {
        private int boxes = 0;
        private final int[] boxPlace = new int[MOST_BOXES];
        private final int[] boxRed = new int[MOST_BOXES];
        private int people = 0;
        private final int[] place = new int[MOST_PEOPLE];
        private final int[] pensive = new int[MOST_PEOPLE];
        private final int[] at = new int[MOST_PEOPLE];
        private final int[] nearest = new int[MOST_PEOPLE];
        private int rounds = 0;
        private final int[] round = new int[MOST_ROUND];
        private int wets = 0;
        private final int[] wet = new int[MOST_WET];
        private final Rule thinks = new Rule();
        private final Rule sounds = new Rule();
        private final int[] values = new int[Rule.VALUES];

        void clearAll() {
            boxes = 0;
            people = 0;
            rounds = 0;
            wets = 0;
            Arrays.fill(boxRed, 0);
            Arrays.fill(at, NONE);
            thinks.clearAll();
            sounds.clearAll();
        }

        void addBox(int where, int red) {
            if (boxes < MOST_BOXES) {
                boxPlace[boxes] = where;
                boxRed[boxes] = red;
                boxes++;
            }
        }

        void addPerson(int where, int howPensive, int atWhom) {
            if (people < MOST_PEOPLE) {
                place[people] = where;
                pensive[people] = howPensive;
                at[people] = atWhom;
                people++;
            }
        }

        void addRound(int box) {
            if (rounds < MOST_ROUND) {
                round[rounds] = box;
                rounds++;
            }
        }

        void addWet(int howWet) {
            if (wets < MOST_WET) {
                wet[wets] = howWet;
                wets++;
            }
        }

        /** What only the whole text tells: who was never told, the round without one, which box is nearest. */
        void settle() {
            for (int person = 0; person < people; person++) {
                if (at[person] >= people) {
                    at[person] = NONE;
                }
                nearest[person] = nearestTo(place[person]);
            }
            if (rounds == 0) {
                for (int box = 0; box < boxes; box++) {
                    addRound(box);
                }
            }
        }

        private int nearestTo(int where) {
            int best = NONE;
            int least = MOST_PLACE + 1;
            for (int box = 0; box < boxes; box++) {
                int way = Math.abs(boxPlace[box] - where);
                if (way < least) {
                    best = box;
                    least = way;
                }
            }
            return best;
        }

        int wetOn(int day) {
            return wets < 1 ? 2 : wet[Math.floorMod(day, wets)];
        }

        int boxOn(int day) {
            return rounds < 1 ? NONE : round[Math.floorMod(day, rounds)];
        }

        // -- a day --

        int passDay(State state) {
            return passDayWith(state, wetOn(state.dayNow()), boxOn(state.dayNow()));
        }

        /** Answers how many thoughts are fetched; visited is the box to which the man would come. */
        int passDayWith(State state, int howWet, int visited) {
            for (int person = 0; person < people; person++) {
                int box = nearest[person];
                if (box != NONE) {
                    state.think(box, person, thoughtsOf(state, person, box));
                }
            }
            int fetched = 0;
            if (visited != NONE && !state.onStrike()) {
                fetched = fetchAll(state, howWet, visited);
            }
            for (int box = 0; box < boxes; box++) {
                if (state.redOf(box) > 0 && state.heldIn(box) > 0) {
                    state.setRed(box, state.redOf(box) - 1);
                }
            }
            state.nextDay();
            return fetched;
        }

        private int thoughtsOf(State state, int person, int box) {
            if (thinks.isUntold()) {
                return pensive[person];
            }
            values[Rule.PENSIVE] = pensive[person];
            values[Rule.REGRETS] = state.regretOf(person);
            values[Rule.HEARS] = state.heardBy(person);
            values[Rule.REDNESS] = state.redOf(box);
            values[Rule.HOLDS] = state.heldIn(box);
            values[Rule.DAYS] = state.dayNow();
            return keptWithin(thinks.worth(values), 0, MOST_THOUGHT_A_DAY);
        }

        private int fetchAll(State state, int howWet, int box) {
            int fetched = 0;
            for (int person = 0; person < people; person++) {
                int much = state.heldOf(box, person);
                int to = state.atOf(person);
                if (much > 0 && to != NONE) {
                    int far = Math.abs(boxPlace[box] - place[to]);
                    values[Rule.MUCH] = much;
                    values[Rule.FAR] = far;
                    values[Rule.HEARS] = state.heardBy(to);
                    values[Rule.WETNESS] = howWet;
                    values[Rule.DAYS] = state.dayNow();
                    int sound = sounds.isUntold() ? much / 2 + howWet - far / 3 : sounds.worth(values);
                    state.hear(to, keptWithin(sound, 0, MOST_SOUND));
                }
                state.letGo(box, person);
                fetched += much;
            }
            return fetched;
        }

        // -- who is what in a state --

        int fullestBox(State state) {
            int best = NONE;
            for (int box = 0; box < boxes; box++) {
                if (best == NONE || state.heldIn(box) > state.heldIn(best)) {
                    best = box;
                }
            }
            return best;
        }

        int loudestPerson(State state) {
            int best = NONE;
            for (int person = 0; person < people; person++) {
                if (best == NONE || state.heardBy(person) > state.heardBy(best)) {
                    best = person;
                }
            }
            return best;
        }

        int saddestPerson(State state) {
            int best = NONE;
            for (int person = 0; person < people; person++) {
                if (best == NONE || state.regretOf(person) > state.regretOf(best)) {
                    best = person;
                }
            }
            return best;
        }

        int emptyBits(State state) {
            int bits = 0;
            for (int box = 0; box < boxes; box++) {
                if (state.heldIn(box) == 0) {
                    bits |= 1 << box;
                }
            }
            return bits;
        }

        int fanBits(State state, int whom) {
            int bits = 0;
            for (int person = 0; person < people; person++) {
                if (state.atOf(person) == whom) {
                    bits |= 1 << person;
                }
            }
            return bits;
        }

        int unthoughtBits(State state) {
            int bits = 0;
            for (int person = 0; person < people; person++) {
                if (fanBits(state, person) == 0) {
                    bits |= 1 << person;
                }
            }
            return bits;
        }

        int mutualCouples(State state) {
            int many = 0;
            for (int person = 0; person < people; person++) {
                int other = state.atOf(person);
                // The lesser of the two counts, so that a couple counts once.
                if (other > person && state.atOf(other) == person) {
                    many++;
                }
            }
            return many;
        }

        int reachedBits(State state, int from) {
            int bits = 0;
            int reached = state.atOf(from);
            for (int i = 0; i < MOST_PEOPLE && reached != NONE; i++) {
                bits |= 1 << reached;
                reached = state.atOf(reached);
            }
            return bits;
        }

        // -- where boxes stand --

        int nearBits(int box) {
            int bits = 0;
            for (int person = 0; person < people; person++) {
                if (nearest[person] == box) {
                    bits |= 1 << person;
                }
            }
            return bits;
        }

        int neighbourBits(int person) {
            int box = nearest[person];
            return box == NONE ? 0 : nearBits(box) & ~(1 << person);
        }

        int farthestFrom(int box) {
            int best = NONE;
            int most = NONE;
            for (int person = 0; person < people; person++) {
                int way = Math.abs(boxPlace[box] - place[person]);
                if (nearest[person] == box && way > most) {
                    best = person;
                    most = way;
                }
            }
            return best;
        }

        int fewestCovering(int far) {
            int best = NONE;
            for (int chosen = 0; chosen < 1 << boxes; chosen++) {
                boolean fewer = best == NONE || Integer.bitCount(chosen) < Integer.bitCount(best);
                if (fewer && coversAll(chosen, far)) {
                    best = chosen;
                }
            }
            return best;
        }

        private boolean coversAll(int chosen, int far) {
            for (int person = 0; person < people; person++) {
                if (!covers(chosen, far, place[person])) {
                    return false;
                }
            }
            return true;
        }

        private boolean covers(int chosen, int far, int where) {
            for (int box = 0; box < boxes; box++) {
                if ((chosen >> box & 1) == 1 && Math.abs(boxPlace[box] - where) <= far) {
                    return true;
                }
            }
            return false;
        }

        /** The place for a box with the fewest ways, beside those that stand or alone. */
        int bestPlace(boolean beside) {
            int best = 0;
            int fewest = waysWith(0, beside);
            for (int where = 1; where <= MOST_PLACE; where++) {
                int ways = waysWith(where, beside);
                if (ways < fewest) {
                    best = where;
                    fewest = ways;
                }
            }
            return best;
        }

        int waysWith(int where, boolean beside) {
            int ways = 0;
            for (int person = 0; person < people; person++) {
                int way = Math.abs(where - place[person]);
                int box = nearest[person];
                if (beside && box != NONE) {
                    way = Math.min(way, Math.abs(boxPlace[box] - place[person]));
                }
                ways += way;
            }
            return ways;
        }
    }

    /** A rule, as a row of steps: numbers and values are put on a stack, operators take theirs from it. */
    private static final class Rule {
        static final int VALUES = 6;
        // What stands at each place of the values: of THINKS first, of SOUNDS then; two are of both.
        static final int PENSIVE = 0;
        static final int REGRETS = 1;
        static final int HEARS = 2;
        static final int REDNESS = 3;
        static final int HOLDS = 4;
        static final int DAYS = 5;
        static final int MUCH = 0;
        static final int FAR = 1;
        static final int WETNESS = 3;

        static final int OPEN = 0;
        static final int OR = 1;
        static final int AND = 2;
        static final int NOT = 3;
        static final int LESS = 4;
        static final int EQUAL = 5;
        static final int PLUS = 6;
        static final int MINUS = 7;
        static final int TIMES = 8;
        static final int BY = 9;

        // A step below VALUE_STEP is a number itself.
        static final int VALUE_STEP = 10000;
        static final int OPERATOR_STEP = 20000;
        // Five operands may wait in each of the six expressions within one another.
        private static final int STACK = 40;

        private final int[] steps = new int[TAPE_BYTES];
        private int length = 0;
        private final int[] stack = new int[STACK];

        void clearAll() {
            length = 0;
        }

        boolean isUntold() {
            return length == 0;
        }

        void addStep(int step) {
            if (length < steps.length) {
                steps[length] = step;
                length++;
            }
        }

        int worth(int[] values) {
            int top = 0;
            for (int i = 0; i < length; i++) {
                int step = steps[i];
                if (step == OPERATOR_STEP + NOT) {
                    if (top > 0) {
                        stack[top - 1] = stack[top - 1] == 0 ? 1 : 0;
                    }
                } else if (step >= OPERATOR_STEP) {
                    if (top > 1) {
                        top--;
                        stack[top - 1] = joined(step - OPERATOR_STEP, stack[top - 1], stack[top]);
                    }
                } else if (top < STACK) {
                    stack[top] = step >= VALUE_STEP ? values[step - VALUE_STEP] : step;
                    top++;
                }
            }
            return stack[0];
        }

        private static int joined(int operator, int left, int right) {
            switch (operator) {
                case OR: return left != 0 || right != 0 ? 1 : 0;
                case AND: return left != 0 && right != 0 ? 1 : 0;
                case LESS: return left < right ? 1 : 0;
                case EQUAL: return left == right ? 1 : 0;
                case PLUS: return left + right;
                case MINUS: return left - right;
                case TIMES: return left * right;
                default: return right == 0 ? 0 : left / right;
            }
        }
    }

    /** The tokens of a text, one at a time, and the first fault among them: behind it they stand still. */
    private static final class Tokens {
        static final int END = 0;
        static final int BAD = 1;
        static final int WORD = 2;
        static final int NUMBER = 3;
        static final int BLANK = 4;
        // Any other kind is a sign, by its byte.

        static final int CANT_STAND = 1;
        static final int TOO_MUCH = 2;
        static final int UNKNOWN = 3;
        static final int ONESELF = 4;
        static final int SECOND = 5;

        private byte[] text = new byte[0];
        private int length = 0;
        private int begin = 0;
        private int end = 0;
        private int kind = END;
        private int number = 0;
        private int fault = 0;

        void start(byte[] bytes, int many) {
            text = bytes;
            length = Math.min(many, bytes.length);
            end = 0;
            fault = 0;
            step();
        }

        void fail(int code) {
            if (fault == 0) {
                fault = code;
            }
        }

        boolean isFine() {
            return fault == 0;
        }

        void step() {
            if (fault != 0) {
                return;
            }
            begin = end;
            while (begin < length && kindOf(text[begin]) == BLANK) {
                begin++;
            }
            end = begin;
            kind = END;
            if (begin < length) {
                kind = kindOf(text[begin]);
                end++;
            }
            while (end < length && (kind == WORD || kind == NUMBER) && kindOf(text[end]) == kind) {
                end++;
            }
            number = kind == NUMBER ? numberHere() : 0;
        }

        /** A number that is too long stands above all that a number may be. */
        private int numberHere() {
            if (end - begin > MOST_DIGITS) {
                return MOST_NUMBER + 1;
            }
            int sum = 0;
            for (int i = begin; i < end; i++) {
                sum = 10 * sum + text[i] - '0';
            }
            return sum;
        }

        boolean isWord(String word) {
            if (kind != WORD || end - begin != word.length()) {
                return false;
            }
            for (int i = 0; i < word.length(); i++) {
                if (text[begin + i] != word.charAt(i)) {
                    return false;
                }
            }
            return true;
        }

        int takeNumber(int most) {
            if (kind != NUMBER) {
                fail(CANT_STAND);
            } else if (number > most) {
                fail(TOO_MUCH);
            }
            int taken = number;
            step();
            return taken;
        }

        void takeSign(int sign) {
            if (kind != sign) {
                fail(CANT_STAND);
            }
            step();
        }

        private static int kindOf(int sign) {
            if (sign >= 'a' && sign <= 'z') {
                return WORD;
            }
            if (sign >= '0' && sign <= '9') {
                return NUMBER;
            }
            switch (sign) {
                case ' ':
                case '\n':
                    return BLANK;
                case ';':
                case '(':
                case ')':
                case '+':
                case '-':
                case '*':
                case '/':
                case '<':
                case '=':
                    return sign;
                default:
                    return BAD;
            }
        }
    }

    /** Reads the lines of a text into a City. */
    private static final class CityReader {
        private final Tokens tokens = new Tokens();
        private final RuleReader rules = new RuleReader();

        /** Answers the fault, or 0; what stands in the City is of no use behind a fault. */
        int read(byte[] bytes, int many, City into) {
            into.clearAll();
            tokens.start(bytes, many);
            for (int lines = 0; lines <= many && tokens.isFine() && tokens.kind != Tokens.END; lines++) {
                readLine(into);
            }
            if (tokens.isFine()) {
                into.settle();
            }
            return tokens.fault;
        }

        int placeOfFault() {
            return tokens.isFine() ? NONE : tokens.begin;
        }

        private void readLine(City into) {
            if (tokens.isWord("box")) {
                readBox(into);
            } else if (tokens.isWord("person")) {
                readPerson(into);
            } else if (tokens.isWord("round")) {
                readRound(into);
            } else if (tokens.isWord("wet")) {
                readWet(into);
            } else if (tokens.isWord("thinks")) {
                rules.read(tokens, into.thinks, true);
            } else if (tokens.isWord("sounds")) {
                rules.read(tokens, into.sounds, false);
            } else {
                tokens.fail(Tokens.CANT_STAND);
            }
            tokens.takeSign(';');
        }

        private void readBox(City into) {
            if (into.boxes >= MOST_BOXES) {
                tokens.fail(Tokens.TOO_MUCH);
            }
            tokens.step();
            int where = tokens.takeNumber(MOST_PLACE);
            int red = tokens.takeNumber(MOST_RED);
            if (tokens.isFine()) {
                into.addBox(where, red);
            }
        }

        private void readPerson(City into) {
            if (into.people >= MOST_PEOPLE) {
                tokens.fail(Tokens.TOO_MUCH);
            }
            tokens.step();
            int where = tokens.takeNumber(MOST_PLACE);
            int pensive = tokens.takeNumber(MOST_PENSIVE);
            int at = tokens.isFine() && tokens.isWord("at") ? readAt(into.people) : NONE;
            if (tokens.isFine()) {
                into.addPerson(where, pensive, at);
            }
        }

        private int readAt(int oneself) {
            tokens.step();
            if (tokens.kind == Tokens.NUMBER && tokens.number == oneself) {
                tokens.fail(Tokens.ONESELF);
            }
            return tokens.takeNumber(MOST_PEOPLE - 1);
        }

        private void readRound(City into) {
            if (into.rounds > 0) {
                tokens.fail(Tokens.SECOND);
            }
            tokens.step();
            for (int i = 0; i <= MOST_ROUND && moreNumbers(i); i++) {
                int box = readInRow(i, MOST_ROUND, MOST_NUMBER, into.boxes);
                if (tokens.isFine()) {
                    into.addRound(box);
                }
            }
        }

        private void readWet(City into) {
            if (into.wets > 0) {
                tokens.fail(Tokens.SECOND);
            }
            tokens.step();
            for (int i = 0; i <= MOST_WET && moreNumbers(i); i++) {
                int wet = readInRow(i, MOST_WET, MOST_WETNESS, MOST_NUMBER);
                if (tokens.isFine()) {
                    into.addWet(wet);
                }
            }
        }

        /** The first number of a row must stand, the others may. */
        private boolean moreNumbers(int read) {
            return tokens.isFine() && (read == 0 || tokens.kind == Tokens.NUMBER);
        }

        private int readInRow(int read, int rowMost, int most, int told) {
            if (tokens.kind == Tokens.NUMBER && read >= rowMost) {
                tokens.fail(Tokens.TOO_MUCH);
            } else if (tokens.kind == Tokens.NUMBER && tokens.number <= most && tokens.number >= told) {
                tokens.fail(Tokens.UNKNOWN);
            }
            return tokens.takeNumber(most);
        }
    }

    /** Reads an EXPR into a Rule: operators wait on a stack until a weaker one, or the end, lets them go. */
    private static final class RuleReader {
        private static final int MOST_WITHIN = 6;
        private static final int MOST_NOTS = 6;
        // In each expression a parenthesis, six nots and one of each other rank may wait.
        private static final int MOST_WAITING = 12 * (MOST_WITHIN + 1);
        // How strongly each operator of Rule binds, by its number.
        private static final int[] RANK = {0, 1, 2, 3, 4, 4, 5, 5, 6, 6};

        private final int[] waiting = new int[MOST_WAITING];
        private int top = 0;
        private int within = 0;
        private int nots = 0;
        private boolean wantsPart = true;
        private boolean mayNot = true;

        /** From the line's first word on; stops at the ';' behind the EXPR, or at a fault. */
        void read(Tokens tokens, Rule rule, boolean ofThinks) {
            if (!rule.isUntold()) {
                tokens.fail(Tokens.SECOND);
            }
            tokens.step();
            top = 0;
            within = 0;
            beginExpression();
            for (int i = 0; i <= TAPE_BYTES && tokens.isFine() && !isEnd(tokens); i++) {
                if (wantsPart) {
                    readPart(tokens, rule, ofThinks);
                } else {
                    readBehindPart(tokens, rule);
                }
                tokens.step();
            }
            if (tokens.isFine()) {
                release(rule, Rule.OR);
            }
        }

        private boolean isEnd(Tokens tokens) {
            return !wantsPart && within == 0 && tokens.kind == ';';
        }

        private void beginExpression() {
            wantsPart = true;
            mayNot = true;
            nots = 0;
        }

        private void readPart(Tokens tokens, Rule rule, boolean ofThinks) {
            boolean isNumber = tokens.kind == Tokens.NUMBER;
            boolean isOpen = tokens.kind == '(';
            if (!isNumber && !isOpen && tokens.kind != Tokens.WORD) {
                tokens.fail(Tokens.CANT_STAND);
            } else if (within >= MOST_WITHIN || isNumber && tokens.number > MOST_NUMBER) {
                tokens.fail(Tokens.TOO_MUCH);
            } else if (isOpen) {
                push(Rule.OPEN);
                within++;
                beginExpression();
            } else if (isNumber) {
                rule.addStep(tokens.number);
                wantsPart = false;
            } else if (mayNot && tokens.isWord("not")) {
                readNot(tokens);
            } else {
                putValue(tokens, rule, ofThinks ? valueOfThinks(tokens) : valueOfSounds(tokens));
            }
        }

        private void readNot(Tokens tokens) {
            if (nots >= MOST_NOTS) {
                tokens.fail(Tokens.TOO_MUCH);
            }
            push(Rule.NOT);
            nots++;
        }

        private void putValue(Tokens tokens, Rule rule, int value) {
            if (value == NONE) {
                tokens.fail(Tokens.UNKNOWN);
            } else {
                rule.addStep(Rule.VALUE_STEP + value);
                wantsPart = false;
            }
        }

        private static int valueOfThinks(Tokens tokens) {
            if (tokens.isWord("pensive")) {
                return Rule.PENSIVE;
            } else if (tokens.isWord("regret")) {
                return Rule.REGRETS;
            } else if (tokens.isWord("heard")) {
                return Rule.HEARS;
            } else if (tokens.isWord("red")) {
                return Rule.REDNESS;
            } else if (tokens.isWord("held")) {
                return Rule.HOLDS;
            }
            return tokens.isWord("day") ? Rule.DAYS : NONE;
        }

        private static int valueOfSounds(Tokens tokens) {
            if (tokens.isWord("much")) {
                return Rule.MUCH;
            } else if (tokens.isWord("far")) {
                return Rule.FAR;
            } else if (tokens.isWord("heard")) {
                return Rule.HEARS;
            } else if (tokens.isWord("wet")) {
                return Rule.WETNESS;
            }
            return tokens.isWord("day") ? Rule.DAYS : NONE;
        }

        private void readBehindPart(Tokens tokens, Rule rule) {
            int operator = operatorOf(tokens);
            if (tokens.kind == ')' && within > 0) {
                release(rule, Rule.OR);
                pop();
                within--;
            } else if (operator == NONE) {
                tokens.fail(Tokens.CANT_STAND);
            } else if (RANK[operator] == RANK[Rule.LESS]) {
                readTest(tokens, rule, operator);
            } else {
                release(rule, operator);
                letWait(operator);
            }
        }

        /** A NOT has one test at most: the one of a second would find the first one waiting. */
        private void readTest(Tokens tokens, Rule rule, int operator) {
            release(rule, Rule.PLUS);
            if (top > 0 && RANK[waiting[top - 1]] == RANK[Rule.LESS]) {
                tokens.fail(Tokens.CANT_STAND);
            }
            letWait(operator);
        }

        private void letWait(int operator) {
            push(operator);
            wantsPart = true;
            mayNot = operator == Rule.OR || operator == Rule.AND;
            nots = 0;
        }

        /** All that wait above the last parenthesis, and bind at least as strongly, go into the rule. */
        private void release(Rule rule, int operator) {
            while (top > 0 && RANK[waiting[top - 1]] >= RANK[operator]) {
                top--;
                rule.addStep(Rule.OPERATOR_STEP + waiting[top]);
            }
        }

        private void push(int operator) {
            if (top < waiting.length) {
                waiting[top] = operator;
                top++;
            }
        }

        private void pop() {
            if (top > 0) {
                top--;
            }
        }

        private static int operatorOf(Tokens tokens) {
            switch (tokens.kind) {
                case '<': return Rule.LESS;
                case '=': return Rule.EQUAL;
                case '+': return Rule.PLUS;
                case '-': return Rule.MINUS;
                case '*': return Rule.TIMES;
                case '/': return Rule.BY;
                default: break;
            }
            if (tokens.isWord("or")) {
                return Rule.OR;
            }
            return tokens.isWord("and") ? Rule.AND : NONE;
        }
    }

    /** What was so before each of the latest acts, in a ring of rows. */
    private static final class Acts {
        private final int[] rows = new int[MOST_ACTS * CELLS];
        private int many = 0;
        private int next = 0;

        void clearAll() {
            many = 0;
            next = 0;
        }

        void keep(State before) {
            System.arraycopy(before.cells, 0, rows, next * CELLS, CELLS);
            next = (next + 1) % MOST_ACTS;
            many = Math.min(MOST_ACTS, many + 1);
        }

        void takeBack(State into) {
            if (many > 0) {
                next = (next + MOST_ACTS - 1) % MOST_ACTS;
                System.arraycopy(rows, next * CELLS, into.cells, 0, CELLS);
                many--;
            }
        }

        void copyFrom(Acts other) {
            System.arraycopy(other.rows, 0, rows, 0, rows.length);
            many = other.many;
            next = other.next;
        }
    }

    private static final class Notes {
        private final int[] who = new int[MOST_NOTES];
        private final int[] behind = new int[MOST_NOTES];
        private final int[] sum = new int[MOST_NOTES];
        private int many = 0;

        void clearAll() {
            many = 0;
        }

        void put(int person, int days, int heard) {
            if (many < MOST_NOTES) {
                who[many] = person;
                behind[many] = days;
                sum[many] = heard;
                many++;
            }
        }

        void copyFrom(Notes other) {
            System.arraycopy(other.who, 0, who, 0, MOST_NOTES);
            System.arraycopy(other.behind, 0, behind, 0, MOST_NOTES);
            System.arraycopy(other.sum, 0, sum, 0, MOST_NOTES);
            many = other.many;
        }

        int lastDay() {
            int last = 0;
            for (int i = 0; i < many; i++) {
                last = Math.max(last, behind[i]);
            }
            return last;
        }

        boolean agree(int day, State state) {
            for (int i = 0; i < many; i++) {
                if (behind[i] == day && state.heardBy(who[i]) != sum[i]) {
                    return false;
                }
            }
            return true;
        }
    }

    /** Tries all orders of boxes, each beginning of a row once; keeps what it found for the same state. */
    private static final class OrderSearch {
        private final State[] levels = new State[MOST_BOXES + 1];
        private final int[] row = new int[MOST_BOXES];
        private final int[] best = new int[MOST_BOXES];
        private int mostHeard = NONE;
        private boolean known = false;

        OrderSearch() {
            for (int i = 0; i < levels.length; i++) {
                levels[i] = new State();
            }
        }

        void clearAll() {
            known = false;
        }

        int gained() {
            return mostHeard - levels[0].heardByAll();
        }

        int boxAt(int i) {
            return best[i];
        }

        void search(City city, State from) {
            if (known && levels[0].isLike(from)) {
                return;
            }
            levels[0].copyFrom(from);
            mostHeard = NONE;
            known = true;
            tryRows(city, 0, 0);
        }

        /** Rows come in their order, so that of like ones the first stays. */
        private void tryRows(City city, int depth, int used) {
            if (depth >= city.boxes || depth >= MOST_BOXES) {
                weighRow(levels[depth].heardByAll());
                return;
            }
            State after = levels[depth + 1];
            for (int box = 0; box < city.boxes; box++) {
                if ((used >> box & 1) == 0) {
                    row[depth] = box;
                    after.copyFrom(levels[depth]);
                    city.passDayWith(after, city.wetOn(after.dayNow()), box);
                    tryRows(city, depth + 1, used | 1 << box);
                }
            }
        }

        private void weighRow(int heard) {
            if (heard > mostHeard) {
                mostHeard = heard;
                System.arraycopy(row, 0, best, 0, MOST_BOXES);
            }
        }
    }
}
