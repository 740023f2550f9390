import java.util.NoSuchElementException;

/**
 * A river that flows where it is believed to. ../shared/DOC.md has the promises; words in capitals
 * are its terms. Every row is made once and used again, because all calls share one small room.
 */
public final class BeliefRiver {
    public static final int NONE = -1;

    private static final int MOST_PLACES = 12;
    private static final int MOST_DITCHES = 16;
    private static final int MOST_PERSONS = 6;
    private static final int MOST_DUG = 9;
    private static final int MOST_DAY = 500;
    private static final int MOST_OPEN = 6;
    private static final int MOST_WORKS = 16;
    private static final int MOST_IMAGES = 3;
    private static final int MOST_TRUST = 9;

    private static final int TAPE_BYTES = 600;
    private static final int FEED_BYTES = 20;
    private static final int LAW_BYTES = 150;
    private static final int WORK_BYTES = 150;
    private static final int BOOK_BYTES = 60;

    private static final int CANNOT_STAND = 1;
    private static final int NONE_SUCH = 2;
    private static final int TOO_MANY = 3;
    private static final int TOO_MANY_WORKS = -20;
    private static final int NO_DITCH = -100;

    private final Tape tape;
    private final Land land;
    private final Land spareLand;
    private final Law law;
    private final Law spareLaw;
    private final Book book;
    private final Book spareBook;
    private final Work work;
    private final State now;
    private final Past past;
    private final Images images;
    private final River river;
    private final Asker asker;
    private final Years years;
    private int refusedSteps;
    private int missing;
    private int illegal;

    public BeliefRiver() {
        tape = new Tape();
        land = new Land();
        spareLand = new Land();
        law = new Law();
        spareLaw = new Law();
        book = new Book();
        spareBook = new Book();
        now = new State();
        past = new Past();
        images = new Images();
        river = new River(land, law);
        work = new Work(land, river, now);
        asker = new Asker(land, river);
        years = new Years(land, river);
    }

    public int feed(int a, int b, int c, int d, int e) {
        if (tape.filled + FEED_BYTES > TAPE_BYTES) {
            return NONE;
        }
        tape.append(a);
        tape.append(b);
        tape.append(c);
        tape.append(d);
        tape.append(e);
        return tape.filled;
    }

    public int land(int n) throws IllegalArgumentException {
        openText(n, TAPE_BYTES);
        if (!spareLand.readFrom(tape)) {
            return tape.faultAnswer();
        }
        land.copyFrom(spareLand);
        law.clear();
        book.clear();
        now.begin(land);
        past.clear();
        images.clear();
        refusedSteps = 0;
        return land.places;
    }

    public int law(int n) throws IllegalArgumentException {
        openText(n, LAW_BYTES);
        if (!spareLaw.readFrom(tape)) {
            return tape.faultAnswer();
        }
        law.copyFrom(spareLaw);
        return 1;
    }

    public int work(int n) throws IllegalArgumentException {
        openText(n, WORK_BYTES);
        if (past.size >= MOST_WORKS) {
            return TOO_MANY_WORKS;
        }
        if (!work.readFrom(tape)) {
            return tape.faultAnswer();
        }
        past.push(now);
        work.perform();
        refusedSteps = work.refused;
        return work.done;
    }

    public int book(int n) throws IllegalArgumentException {
        openText(n, BOOK_BYTES);
        if (!spareBook.readFrom(tape, land)) {
            return tape.faultAnswer();
        }
        book.copyFrom(spareBook);
        return book.lines;
    }

    public int fault() {
        return tape.faultAt;
    }

    public int undo() {
        if (past.size == 0) {
            return -1;
        }
        past.popInto(now);
        refusedSteps = 0;
        return past.size;
    }

    public int told(int what) throws IllegalArgumentException {
        needRange(what, 0, 10);
        switch (what) {
            case 0: return land.places;
            case 1: return land.ditches;
            case 2: return land.persons;
            case 3: return now.day;
            case 4: return land.spring;
            case 8: return now.believedInAll();
            case 9: return book.lines;
            case 10: return refusedSteps;
            default: return toldOfCourse(what);
        }
    }

    private int toldOfCourse(int what) {
        river.trace(now);
        switch (what) {
            case 5: return river.length;
            case 6: return river.bits;
            default: return river.end();
        }
    }

    public int place(int place, int what) throws NoSuchElementException, IllegalArgumentException {
        needPlace(place);
        needRange(what, 0, 4);
        switch (what) {
            case 0: return land.height[place];
            case 1: return land.links[place];
            case 2: return now.personsIn(place);
            case 3: return river.goesOn(now, place);
            default:
                river.trace(now);
                return river.rank(place);
        }
    }

    public int ditch(int ditch, int what) throws NoSuchElementException, IllegalArgumentException {
        needMember(ditch, land.ditches);
        needRange(what, 0, 3);
        switch (what) {
            case 0: return land.oneEnd[ditch];
            case 1: return land.otherEnd[ditch];
            case 2: return now.dug[ditch];
            default: return now.ran[ditch];
        }
    }

    public int person(int person, int what) throws NoSuchElementException, IllegalArgumentException {
        needPerson(person);
        needRange(what, 0, 3);
        switch (what) {
            case 0: return now.trust[person];
            case 1: return now.where[person];
            case 2: return now.believedBy(person);
            default: return rightBeliefs(person);
        }
    }

    private int rightBeliefs(int person) {
        int sum = 0;
        for (int a = 0; a < land.places; a++) {
            int to = now.believes(person, a);
            if (to != NONE && to == river.goesOn(now, a)) {
                sum++;
            }
        }
        return sum;
    }

    public int belief(int person, int place) throws NoSuchElementException {
        needPerson(person);
        needPlace(place);
        return now.believes(person, place);
    }

    public int pull(int from, int to) throws NoSuchElementException {
        needPlace(from);
        needPlace(to);
        return land.between(from, to) == NONE ? NO_DITCH : river.draw(now, from, to);
    }

    public int would(int fall, int belief, int doubt, int near, int dug, int ran, int day, int from, int to)
            throws IllegalArgumentException {
        needRange(fall, -60, 60);
        needRange(belief, 0, 54);
        needRange(doubt, 0, 54);
        needRange(near, 0, 6);
        needRange(dug, 0, 9);
        needRange(ran, 0, 999);
        needRange(day, 0, 500);
        needRange(from, 0, 11);
        needRange(to, 0, 11);
        int[] inputs = law.inputs;
        inputs[Law.FALL] = fall;
        inputs[Law.BELIEF] = belief;
        inputs[Law.DOUBT] = doubt;
        inputs[Law.NEAR] = near;
        inputs[Law.DUG] = dug;
        inputs[Law.RAN] = ran;
        inputs[Law.DAY] = day;
        inputs[Law.FROM] = from;
        inputs[Law.TO] = to;
        return law.drawOfInputs();
    }

    public int course(int k) throws IllegalArgumentException {
        need(k >= 0);
        river.trace(now);
        return k < river.length ? river.path[k] : NONE;
    }

    public int ahead(int n, int what) throws IllegalArgumentException {
        needRange(n, 0, 99);
        needRange(what, 0, 1);
        asker.traceAhead(now, n);
        return what == 0 ? river.bits : river.end();
    }

    public int stays() {
        return asker.findStay(now);
    }

    public int tellings(int person, int place, int what) throws NoSuchElementException, IllegalArgumentException {
        needPerson(person);
        needPlace(place);
        needRange(what, 0, 1);
        asker.findTellings(now, person, place);
        return what == 0 ? asker.fewestTellings : asker.firstTelling;
    }

    public int silence(int place) throws NoSuchElementException {
        needPlace(place);
        return asker.findSilence(now, place);
    }

    public int who(int what) throws IllegalArgumentException {
        needRange(what, 0, 2);
        asker.findSets(now, book);
        switch (what) {
            case 0: return asker.sets;
            case 1: return asker.firstSet;
            default: return asker.sure;
        }
    }

    public int look(int what) throws IllegalArgumentException {
        needRange(what, 0, 1);
        asker.findLook(now, book);
        return what == 0 ? asker.lookPlace : asker.lookWorst;
    }

    public int digs(int from, int to) throws NoSuchElementException {
        needPlace(from);
        needPlace(to);
        return asker.findDigs(now, from, to);
    }

    public int way(int place, int other) throws NoSuchElementException {
        needPlace(place);
        needPlace(other);
        return land.wayLength(place, other);
    }

    public int meet(int person, int other, int what) throws NoSuchElementException, IllegalArgumentException {
        needPerson(person);
        needPerson(other);
        needRange(what, 0, 1);
        int at = NONE;
        int fewest = NONE;
        for (int x = 0; x < land.places; x++) {
            int one = land.wayLength(now.where[person], x);
            int two = land.wayLength(now.where[other], x);
            if (one != NONE && two != NONE && (at == NONE || one + two < fewest)) {
                at = x;
                fewest = one + two;
            }
        }
        return what == 0 ? at : fewest;
    }

    public int sight() {
        river.trace(now);
        int best = NONE;
        int fewest = land.places + 1;
        for (int set = 0; set < 1 << land.places; set++) {
            int many = Integer.bitCount(set);
            if (many < fewest && (river.bits & ~(set | land.linkedTo(set))) == 0) {
                best = set;
                fewest = many;
            }
        }
        return best;
    }

    public long seen(int n, int q, int part) throws IllegalArgumentException {
        needRange(n, 0, 12);
        needRange(q, 0, 16);
        needRange(part, 0, 1);
        long below = power(16, n);
        long one = n == 0 ? 0 : n * q * power(16 - q, n - 1);
        long above = below - power(16 - q, n) - one;
        // Below is a power of two, so halving is all there is to cancel.
        for (int k = 0; k < 48 && above % 2 == 0 && below % 2 == 0; k++) {
            above /= 2;
            below /= 2;
        }
        return part == 0 ? above : below;
    }

    private static long power(long base, int exponent) {
        long product = 1;
        for (int k = 0; k < exponent; k++) {
            product *= base;
        }
        return product;
    }

    public int leaders(int d, int what) throws IllegalArgumentException {
        needRange(d, 0, 30);
        needRange(what, 0, 2);
        asker.findRests(now, d);
        switch (what) {
            case 0: return asker.rests;
            case 1: return asker.firstRest;
            default: return asker.restGain;
        }
    }

    public int share(int person, int persons, int n) throws NoSuchElementException, IllegalArgumentException {
        needPerson(person);
        needRange(n, 0, 99);
        needRange(persons, 0, (1 << land.persons) - 1);
        if ((persons >> person & 1) == 0) {
            return 0;
        }
        int bound = MOST_TRUST;
        while (bound > 0 && givenBy(bound, persons) > n) {
            bound--;
        }
        return Math.min(bound, now.trust[person]);
    }

    private int givenBy(int bound, int persons) {
        int sum = 0;
        for (int p = 0; p < land.persons; p++) {
            if ((persons >> p & 1) != 0) {
                sum += Math.min(bound, now.trust[p]);
            }
        }
        return sum;
    }

    public int right(int place, int what) throws NoSuchElementException, IllegalArgumentException {
        needPlace(place);
        needRange(what, 0, 1);
        int to = river.goesOn(now, place);
        int rightOnes = 0;
        int wrongOnes = 0;
        for (int p = 0; p < land.persons; p++) {
            int believed = now.believes(p, place);
            if (believed != NONE && believed == to) {
                rightOnes |= 1 << p;
            } else if (believed != NONE) {
                wrongOnes |= 1 << p;
            }
        }
        return what == 0 ? rightOnes : wrongOnes;
    }

    public int blank(int what) throws IllegalArgumentException {
        needRange(what, 0, 1);
        int who = NONE;
        int trust = NONE;
        for (int p = 0; p < land.persons; p++) {
            if (now.believedBy(p) == 0 && now.trust[p] > trust) {
                who = p;
                trust = now.trust[p];
            }
        }
        return what == 0 ? who : trust;
    }

    public int uphill() {
        int set = 0;
        for (int a = 0; a < land.places; a++) {
            int to = river.goesOn(now, a);
            if (to != NONE && land.height[to] > land.height[a]) {
                set |= 1 << a;
            }
        }
        return set;
    }

    public int year(int seed, int days, int q, int what) throws IllegalArgumentException {
        needRange(days, 1, 96);
        needRange(q, 0, 16);
        needRange(what, 0, 3);
        years.live(now, seed, days, q);
        switch (what) {
            case 0: return river.end();
            case 1: return years.trial.believedInAll();
            case 2: return years.walks;
            default: return river.bits;
        }
    }

    public int span(int seed, int many, int days, int q, int what, int place) throws IllegalArgumentException {
        needRange(many, 1, 20);
        needRange(days, 1, 96);
        needRange(q, 0, 16);
        needRange(what, 0, 2);
        needRange(place, 0, land.places - 1);
        int fewest = MOST_PLACES;
        int most = 0;
        int come = 0;
        for (int k = 0; k < many; k++) {
            years.live(now, seed + k, days, q);
            fewest = Math.min(fewest, river.length);
            most = Math.max(most, river.length);
            come += river.bits >> place & 1;
        }
        switch (what) {
            case 0: return fewest;
            case 1: return most;
            default: return come;
        }
    }

    public int image() {
        return images.keep(now, past) ? images.size : -1;
    }

    public int restore() {
        if (!images.putBack(now, past)) {
            return -1;
        }
        refusedSteps = 0;
        return images.size;
    }

    public int status(int what) {
        switch (what) {
            case 0: return missing;
            case 1: return illegal;
            default: return NONE;
        }
    }

    public int count(int what) {
        switch (what) {
            case 0: return images.size;
            case 1: return tape.filled;
            case 2: return past.size;
            default: return NONE;
        }
    }

    private void openText(int n, int most) {
        needRange(n, 0, Math.min(most, tape.filled));
        tape.open(n);
    }

    private void needPlace(int place) {
        needMember(place, land.places);
    }

    private void needPerson(int person) {
        needMember(person, land.persons);
    }

    private void needMember(int number, int many) {
        if (number < 0 || number >= many) {
            missing++;
            throw new NoSuchElementException("no such place, ditch or person");
        }
    }

    private void needRange(int value, int least, int most) {
        need(value >= least && value <= most);
    }

    private void need(boolean fits) {
        if (!fits) {
            illegal++;
            throw new IllegalArgumentException("out of its bounds");
        }
    }

    /** The bytes that were fed, and the reading of one text from their beginning. */
    private static final class Tape {
        static final int END = -1;
        private static final int HUGE = 100000;

        private final int[] bytes = new int[TAPE_BYTES];
        int filled;
        int begin;
        int faultAt = NONE;
        private int faultKind;
        private int length;
        private int at;

        void append(int number) {
            for (int shift = 24; shift >= 0 && filled < TAPE_BYTES; shift -= 8) {
                bytes[filled] = number >>> shift & 255;
                filled++;
            }
        }

        /** The bytes stay until something new is fed, so the text is read where it lies. */
        void open(int n) {
            length = n;
            filled = 0;
            at = 0;
            begin = 0;
            faultKind = 0;
            faultAt = NONE;
        }

        boolean wrong(int kind, int position) {
            faultKind = kind;
            faultAt = position;
            return false;
        }

        int faultAnswer() {
            return faultKind - 10;
        }

        int peek() {
            while (at < length && bytes[at] == ' ') {
                at++;
            }
            return at < length ? bytes[at] : END;
        }

        boolean isDigit(int sign) {
            return sign >= '0' && sign <= '9';
        }

        private boolean isLetter(int sign) {
            return sign >= 'a' && sign <= 'z';
        }

        boolean sign(int due) {
            if (peek() != due) {
                return wrong(CANNOT_STAND, at);
            }
            begin = at;
            at++;
            return true;
        }

        boolean endsHere() {
            return peek() == END || wrong(CANNOT_STAND, at);
        }

        boolean word() {
            if (!isLetter(peek())) {
                return wrong(CANNOT_STAND, at);
            }
            begin = at;
            while (at < length && isLetter(bytes[at])) {
                at++;
            }
            return true;
        }

        boolean wordIs(String due) {
            if (at - begin != due.length()) {
                return false;
            }
            for (int k = 0; k < due.length(); k++) {
                if (bytes[begin + k] != due.charAt(k)) {
                    return false;
                }
            }
            return true;
        }

        /** NONE stands for a FAULT: no number of any text is below 0. */
        int number(int least, int most) {
            if (!isDigit(peek())) {
                wrong(CANNOT_STAND, at);
                return NONE;
            }
            begin = at;
            int value = 0;
            while (at < length && isDigit(bytes[at])) {
                // Held down, because a number may have more digits than an int has room for.
                value = Math.min(HUGE, value * 10 + bytes[at] - '0');
                at++;
            }
            if (value < least || value > most) {
                wrong(NONE_SUCH, begin);
                return NONE;
            }
            return value;
        }

        /** The B of an A and B between which a DITCH must be. */
        int linkedNumber(Land land, int a) {
            int b = number(0, land.places - 1);
            if (b != NONE && land.between(a, b) == NONE) {
                wrong(NONE_SUCH, begin);
                return NONE;
            }
            return b;
        }
    }

    /** What the text of a LAND tells; nothing of it changes until another LAND comes. */
    private static final class Land {
        private static final int MOST_CLAUSES = 60;
        private static final int MOST_HEIGHT = 60;
        private static final int PLACE = 0;
        private static final int DITCH = 1;
        private static final int PERSON = 2;
        private static final int CLAIM = 3;
        private static final int SPRING = 4;

        int places;
        int ditches;
        int persons;
        int spring;
        final int[] height = new int[MOST_PLACES];
        final int[] links = new int[MOST_PLACES];
        final int[] oneEnd = new int[MOST_DITCHES];
        final int[] otherEnd = new int[MOST_DITCHES];
        private final int[] ditchOf = new int[MOST_PLACES * MOST_PLACES];
        final int[] trust = new int[MOST_PERSONS];
        final int[] home = new int[MOST_PERSONS];
        final int[] claims = new int[MOST_PERSONS * MOST_PLACES];

        private void clear() {
            places = 0;
            ditches = 0;
            persons = 0;
            spring = 0;
            for (int k = 0; k < MOST_PLACES; k++) {
                links[k] = 0;
            }
            fillWithNone(ditchOf);
            fillWithNone(claims);
        }

        void copyFrom(Land other) {
            places = other.places;
            ditches = other.ditches;
            persons = other.persons;
            spring = other.spring;
            System.arraycopy(other.height, 0, height, 0, height.length);
            System.arraycopy(other.links, 0, links, 0, links.length);
            System.arraycopy(other.oneEnd, 0, oneEnd, 0, oneEnd.length);
            System.arraycopy(other.otherEnd, 0, otherEnd, 0, otherEnd.length);
            System.arraycopy(other.ditchOf, 0, ditchOf, 0, ditchOf.length);
            System.arraycopy(other.trust, 0, trust, 0, trust.length);
            System.arraycopy(other.home, 0, home, 0, home.length);
            System.arraycopy(other.claims, 0, claims, 0, claims.length);
        }

        /** Both are PLACES; NONE: no DITCH is between them. */
        int between(int a, int b) {
            return ditchOf[a * MOST_PLACES + b];
        }

        int linkedTo(int set) {
            int linked = 0;
            for (int a = 0; a < places; a++) {
                if ((set >> a & 1) != 0) {
                    linked |= links[a];
                }
            }
            return linked;
        }

        int wayLength(int from, int to) {
            int reached = 1 << from;
            for (int k = 0; k < places; k++) {
                if ((reached >> to & 1) != 0) {
                    return k;
                }
                reached |= linkedTo(reached);
            }
            return NONE;
        }

        boolean readFrom(Tape tape) {
            clear();
            for (int k = 0; k <= MOST_CLAUSES && tape.peek() != Tape.END; k++) {
                if (!readClause(tape, k) || !tape.sign(';')) {
                    return false;
                }
            }
            return true;
        }

        private boolean readClause(Tape tape, int clausesAhead) {
            if (!tape.word()) {
                return false;
            }
            int kind = kindOf(tape);
            if (kind == NONE) {
                return tape.wrong(CANNOT_STAND, tape.begin);
            }
            if (clausesAhead >= MOST_CLAUSES || isFull(kind)) {
                return tape.wrong(TOO_MANY, tape.begin);
            }
            switch (kind) {
                case PLACE: return readPlace(tape);
                case DITCH: return readDitch(tape);
                case PERSON: return readPerson(tape);
                case CLAIM: return readClaim(tape);
                default: return readSpring(tape);
            }
        }

        private int kindOf(Tape tape) {
            if (tape.wordIs("place")) {
                return PLACE;
            }
            if (tape.wordIs("ditch")) {
                return DITCH;
            }
            if (tape.wordIs("person")) {
                return PERSON;
            }
            if (tape.wordIs("claim")) {
                return CLAIM;
            }
            return tape.wordIs("spring") ? SPRING : NONE;
        }

        private boolean isFull(int kind) {
            switch (kind) {
                case PLACE: return places >= MOST_PLACES;
                case DITCH: return ditches >= MOST_DITCHES;
                case PERSON: return persons >= MOST_PERSONS;
                default: return false;
            }
        }

        private boolean readPlace(Tape tape) {
            int tall = tape.number(0, MOST_HEIGHT);
            if (tall == NONE) {
                return false;
            }
            height[places] = tall;
            places++;
            return true;
        }

        private boolean readDitch(Tape tape) {
            int a = tape.number(0, places - 1);
            if (a == NONE) {
                return false;
            }
            int b = tape.number(0, places - 1);
            if (b == NONE) {
                return false;
            }
            if (a == b || between(a, b) != NONE) {
                return tape.wrong(NONE_SUCH, tape.begin);
            }
            oneEnd[ditches] = a;
            otherEnd[ditches] = b;
            ditchOf[a * MOST_PLACES + b] = ditches;
            ditchOf[b * MOST_PLACES + a] = ditches;
            links[a] |= 1 << b;
            links[b] |= 1 << a;
            ditches++;
            return true;
        }

        private boolean readPerson(Tape tape) {
            int trusted = tape.number(1, MOST_TRUST);
            if (trusted == NONE) {
                return false;
            }
            int a = tape.number(0, places - 1);
            if (a == NONE) {
                return false;
            }
            trust[persons] = trusted;
            home[persons] = a;
            persons++;
            return true;
        }

        private boolean readClaim(Tape tape) {
            int p = tape.number(0, persons - 1);
            if (p == NONE) {
                return false;
            }
            int a = tape.number(0, places - 1);
            if (a == NONE) {
                return false;
            }
            int b = tape.linkedNumber(this, a);
            if (b == NONE) {
                return false;
            }
            claims[p * MOST_PLACES + a] = b;
            return true;
        }

        private boolean readSpring(Tape tape) {
            int a = tape.number(0, places - 1);
            if (a == NONE) {
                return false;
            }
            spring = a;
            return true;
        }
    }

    private static void fillWithNone(int[] row) {
        for (int k = 0; k < row.length; k++) {
            row[k] = NONE;
        }
    }

    /** The LAW, kept with its operands ahead of their signs, so that a DRAW needs no recursion. */
    private static final class Law {
        static final int FALL = 0;
        static final int BELIEF = 1;
        static final int DOUBT = 2;
        static final int NEAR = 3;
        static final int DUG = 4;
        static final int RAN = 5;
        static final int DAY = 6;
        static final int FROM = 7;
        static final int TO = 8;
        private static final int INPUTS = 9;

        private static final int MOST_NUMBER = 999;
        private static final int MOST_DRAW = 99;

        // Codes up to 999 are numbers, those from 1000 on inputs, those from 2000 on join two values.
        private static final int INPUT = 1000;
        private static final int PLUS = 2000;
        private static final int MINUS = 2001;
        private static final int TIMES = 2002;
        private static final int OVER = 2003;
        private static final int REST = 2004;
        private static final int LEAST = 2005;
        private static final int MOST = 2006;

        // fall + belief * 3 - doubt
        private static final int[] WITHOUT_TEXT = {1000, 1001, 3, 2002, 2000, 1002, 2001};

        final int[] inputs = new int[INPUTS];
        private final int[] codes = new int[LAW_BYTES];
        private final int[] values = new int[LAW_BYTES];
        private int size;

        Law() {
            clear();
        }

        void clear() {
            size = WITHOUT_TEXT.length;
            System.arraycopy(WITHOUT_TEXT, 0, codes, 0, size);
        }

        void copyFrom(Law other) {
            size = other.size;
            System.arraycopy(other.codes, 0, codes, 0, size);
        }

        int drawOfInputs() {
            int top = 0;
            for (int k = 0; k < size; k++) {
                int code = codes[k];
                if (code < PLUS && top < values.length) {
                    values[top] = code < INPUT ? code : inputs[code - INPUT];
                    top++;
                } else if (top >= 2) {
                    top--;
                    int left = values[top - 1];
                    int right = values[top];
                    switch (code) {
                        case PLUS: left += right; break;
                        case MINUS: left -= right; break;
                        case TIMES: left *= right; break;
                        case OVER: left = right == 0 ? 0 : left / right; break;
                        case REST: left = right == 0 ? 0 : left % right; break;
                        case LEAST: left = left < right ? left : right; break;
                        default: left = left > right ? left : right; break;
                    }
                    values[top - 1] = left;
                }
            }
            int drawn = values[0];
            return drawn > MOST_DRAW ? MOST_DRAW : drawn < -MOST_DRAW ? -MOST_DRAW : drawn;
        }

        boolean readFrom(Tape tape) {
            size = 0;
            return readSum(tape, 0) && tape.endsHere();
        }

        private void put(int code) {
            if (size < codes.length) {
                codes[size] = code;
                size++;
            }
        }

        private boolean readSum(Tape tape, int open) {
            if (!readProduct(tape, open)) {
                return false;
            }
            for (int k = 0; k < LAW_BYTES; k++) {
                int sign = tape.peek();
                if (sign != '+' && sign != '-') {
                    return true;
                }
                if (!tape.sign(sign) || !readProduct(tape, open)) {
                    return false;
                }
                put(sign == '+' ? PLUS : MINUS);
            }
            return true;
        }

        private boolean readProduct(Tape tape, int open) {
            if (!readUnit(tape, open)) {
                return false;
            }
            for (int k = 0; k < LAW_BYTES; k++) {
                int sign = tape.peek();
                if (sign != '*' && sign != '/' && sign != '%') {
                    return true;
                }
                if (!tape.sign(sign) || !readUnit(tape, open)) {
                    return false;
                }
                put(sign == '*' ? TIMES : sign == '/' ? OVER : REST);
            }
            return true;
        }

        private boolean readUnit(Tape tape, int open) {
            int sign = tape.peek();
            if (tape.isDigit(sign)) {
                return readNumber(tape);
            }
            if (sign == '(') {
                return readBrackets(tape, open);
            }
            if (!tape.word()) {
                return false;
            }
            int input = inputOf(tape);
            if (input != NONE) {
                put(INPUT + input);
                return true;
            }
            if (tape.wordIs("least")) {
                return readPair(tape, open, LEAST);
            }
            return tape.wordIs("most") ? readPair(tape, open, MOST) : tape.wrong(CANNOT_STAND, tape.begin);
        }

        private boolean readNumber(Tape tape) {
            int number = tape.number(0, MOST_NUMBER);
            if (number == NONE) {
                return false;
            }
            put(number);
            return true;
        }

        private boolean readBrackets(Tape tape, int open) {
            if (!tape.sign('(')) {
                return false;
            }
            if (open >= MOST_OPEN) {
                return tape.wrong(TOO_MANY, tape.begin);
            }
            return readSum(tape, open + 1) && tape.sign(')');
        }

        private boolean readPair(Tape tape, int open, int join) {
            if (open >= MOST_OPEN) {
                return tape.wrong(TOO_MANY, tape.begin);
            }
            if (!tape.sign('[') || !readSum(tape, open + 1)) {
                return false;
            }
            if (!tape.sign(',') || !readSum(tape, open + 1)) {
                return false;
            }
            put(join);
            return tape.sign(']');
        }

        private int inputOf(Tape tape) {
            if (tape.wordIs("fall")) {
                return FALL;
            }
            if (tape.wordIs("belief")) {
                return BELIEF;
            }
            if (tape.wordIs("doubt")) {
                return DOUBT;
            }
            if (tape.wordIs("near")) {
                return NEAR;
            }
            if (tape.wordIs("dug")) {
                return DUG;
            }
            if (tape.wordIs("ran")) {
                return RAN;
            }
            if (tape.wordIs("day")) {
                return DAY;
            }
            if (tape.wordIs("from")) {
                return FROM;
            }
            return tape.wordIs("to") ? TO : NONE;
        }
    }

    /** Where the river was seen to go on, by PLACE. */
    private static final class Book {
        int lines;
        final int[] wentOn = new int[MOST_PLACES];

        Book() {
            clear();
        }

        void clear() {
            lines = 0;
            fillWithNone(wentOn);
        }

        void copyFrom(Book other) {
            lines = other.lines;
            System.arraycopy(other.wentOn, 0, wentOn, 0, wentOn.length);
        }

        boolean readFrom(Tape tape, Land land) {
            clear();
            for (int k = 0; k < BOOK_BYTES && tape.peek() != Tape.END; k++) {
                if (!readLine(tape, land)) {
                    return false;
                }
            }
            return true;
        }

        private boolean readLine(Tape tape, Land land) {
            int a = tape.number(0, land.places - 1);
            if (a == NONE) {
                return false;
            }
            if (wentOn[a] != NONE) {
                return tape.wrong(NONE_SUCH, tape.begin);
            }
            int b = tape.linkedNumber(land, a);
            if (b == NONE) {
                return false;
            }
            wentOn[a] = b;
            lines++;
            return tape.sign(';');
        }
    }

    /** The STEPS of one WORK, as they were read, and the doing of them. */
    private static final class Work {
        private static final int TELL = 0;
        private static final int FORGET = 1;
        private static final int WALK = 2;
        private static final int DIG = 3;
        private static final int DAY = 4;
        private static final int AGAIN = 5;
        private static final int MOST_AGAIN = 60;
        private static final int MOST_BEGUN = 200;
        // The shortest STEP is "day;".
        private static final int MOST_STEPS = WORK_BYTES / 4 + 1;

        int done;
        int refused;
        private int begun;
        private int size;
        private final Land land;
        private final River river;
        private final State state;
        private final int[] kinds = new int[MOST_STEPS];
        private final int[] ones = new int[MOST_STEPS];
        private final int[] froms = new int[MOST_STEPS];
        private final int[] tos = new int[MOST_STEPS];

        Work(Land aLand, River aRiver, State aState) {
            land = aLand;
            river = aRiver;
            state = aState;
        }

        boolean readFrom(Tape tape) {
            size = 0;
            return readSteps(tape, 0) && tape.endsHere();
        }

        private boolean readSteps(Tape tape, int open) {
            for (int k = 0; k < WORK_BYTES; k++) {
                int sign = tape.peek();
                if (open == 0 ? sign == Tape.END : sign == ']') {
                    return true;
                }
                if (!readStep(tape, open) || !tape.sign(';')) {
                    return false;
                }
            }
            return true;
        }

        private boolean readStep(Tape tape, int open) {
            if (!tape.word()) {
                return false;
            }
            int kind = kindOf(tape);
            if (kind == NONE) {
                return tape.wrong(CANNOT_STAND, tape.begin);
            }
            if (kind == AGAIN && open >= MOST_OPEN || size >= MOST_STEPS) {
                return tape.wrong(TOO_MANY, tape.begin);
            }
            int step = size;
            size++;
            kinds[step] = kind;
            switch (kind) {
                case TELL: return readWho(tape, step) && readStart(tape, step) && readGoal(tape, step);
                case FORGET:
                case WALK: return readWho(tape, step) && readStart(tape, step);
                case DIG: return readStart(tape, step) && readGoal(tape, step);
                case AGAIN: return readAgain(tape, open, step);
                default: return true;
            }
        }

        private int kindOf(Tape tape) {
            if (tape.wordIs("tell")) {
                return TELL;
            }
            if (tape.wordIs("forget")) {
                return FORGET;
            }
            if (tape.wordIs("walk")) {
                return WALK;
            }
            if (tape.wordIs("dig")) {
                return DIG;
            }
            if (tape.wordIs("day")) {
                return DAY;
            }
            return tape.wordIs("again") ? AGAIN : NONE;
        }

        private boolean readWho(Tape tape, int step) {
            ones[step] = tape.number(0, land.persons - 1);
            return ones[step] != NONE;
        }

        private boolean readStart(Tape tape, int step) {
            froms[step] = tape.number(0, land.places - 1);
            return froms[step] != NONE;
        }

        private boolean readGoal(Tape tape, int step) {
            tos[step] = tape.linkedNumber(land, froms[step]);
            return tos[step] != NONE;
        }

        /** Its STEPS stand behind it, up to the one that tos tells. */
        private boolean readAgain(Tape tape, int open, int step) {
            ones[step] = tape.number(0, MOST_AGAIN);
            if (ones[step] == NONE || !tape.sign('[') || !readSteps(tape, open + 1)) {
                return false;
            }
            tos[step] = size;
            return tape.sign(']');
        }

        void perform() {
            begun = 0;
            done = 0;
            refused = 0;
            run(0, size, 0);
        }

        private void run(int first, int behind, int open) {
            int step = first;
            while (step < behind && begun < MOST_BEGUN && open <= MOST_OPEN) {
                begun++;
                if (kinds[step] == AGAIN) {
                    for (int k = 0; k < ones[step] && begun < MOST_BEGUN; k++) {
                        run(step + 1, tos[step], open + 1);
                    }
                    step = tos[step];
                } else {
                    if (isDone(step)) {
                        done++;
                    } else {
                        refused++;
                    }
                    step++;
                }
            }
        }

        private boolean isDone(int step) {
            switch (kinds[step]) {
                case TELL: return state.tell(ones[step], froms[step], tos[step]);
                case FORGET: return state.forget(ones[step], froms[step]);
                case WALK: return river.walk(state, ones[step], froms[step]);
                case DIG: return river.dig(state, froms[step], tos[step]);
                default: break;
            }
            if (state.day >= MOST_DAY) {
                return false;
            }
            river.trace(state);
            river.flowOneDay(state);
            return true;
        }
    }

    /** All that WORK changes; two PERSONS more than a LAND has, for LEADERS, find room in it. */
    private static final class State {
        private static final int ROOM = MOST_PERSONS + 2;

        int day;
        int persons;
        final int[] trust = new int[ROOM];
        final int[] where = new int[ROOM];
        private final int[] beliefs = new int[ROOM * MOST_PLACES];
        final int[] dug = new int[MOST_DITCHES];
        final int[] ran = new int[MOST_DITCHES];

        void begin(Land land) {
            day = 0;
            persons = land.persons;
            System.arraycopy(land.trust, 0, trust, 0, MOST_PERSONS);
            System.arraycopy(land.home, 0, where, 0, MOST_PERSONS);
            System.arraycopy(land.claims, 0, beliefs, 0, land.claims.length);
            for (int k = 0; k < MOST_DITCHES; k++) {
                dug[k] = 0;
                ran[k] = 0;
            }
        }

        void copyFrom(State other) {
            day = other.day;
            persons = other.persons;
            System.arraycopy(other.trust, 0, trust, 0, trust.length);
            System.arraycopy(other.where, 0, where, 0, where.length);
            System.arraycopy(other.beliefs, 0, beliefs, 0, beliefs.length);
            System.arraycopy(other.dug, 0, dug, 0, dug.length);
            System.arraycopy(other.ran, 0, ran, 0, ran.length);
        }

        int believes(int person, int place) {
            return beliefs[person * MOST_PLACES + place];
        }

        boolean tell(int person, int from, int to) {
            int at = person * MOST_PLACES + from;
            boolean isNews = beliefs[at] != to;
            beliefs[at] = to;
            return isNews;
        }

        boolean forget(int person, int from) {
            int at = person * MOST_PLACES + from;
            boolean wasBelieved = beliefs[at] != NONE;
            beliefs[at] = NONE;
            return wasBelieved;
        }

        void forgetAll(int set) {
            for (int p = 0; p < persons; p++) {
                if ((set >> p & 1) != 0) {
                    forgetAllOf(p);
                }
            }
        }

        private void forgetAllOf(int person) {
            for (int a = 0; a < MOST_PLACES; a++) {
                beliefs[person * MOST_PLACES + a] = NONE;
            }
        }

        /** One more PERSON who is nowhere, so near to nothing. */
        void addLeader(int trusted) {
            if (persons < ROOM) {
                trust[persons] = trusted;
                where[persons] = NONE;
                forgetAllOf(persons);
                persons++;
            }
        }

        int believedBy(int person) {
            int sum = 0;
            for (int a = 0; a < MOST_PLACES; a++) {
                if (believes(person, a) != NONE) {
                    sum++;
                }
            }
            return sum;
        }

        int believedInAll() {
            int sum = 0;
            for (int p = 0; p < persons; p++) {
                sum += believedBy(p);
            }
            return sum;
        }

        int personsIn(int place) {
            int set = 0;
            for (int p = 0; p < persons; p++) {
                if (where[p] == place) {
                    set |= 1 << p;
                }
            }
            return set;
        }
    }

    /** Where the river goes by a LAND, a LAW and a STATE of things. */
    private static final class River {
        private final Land land;
        private final Law law;
        final int[] path = new int[MOST_PLACES];
        int length;
        int bits;

        River(Land aLand, Law aLaw) {
            land = aLand;
            law = aLaw;
        }

        /** A DITCH is between the two. */
        int draw(State state, int from, int to) {
            int belief = 0;
            int doubt = 0;
            int near = 0;
            for (int p = 0; p < state.persons; p++) {
                int believed = state.believes(p, from);
                if (believed == to) {
                    belief += state.trust[p];
                } else if (believed != NONE) {
                    doubt += state.trust[p];
                }
                if (state.where[p] == from || state.where[p] == to) {
                    near++;
                }
            }
            int ditch = land.between(from, to);
            int[] inputs = law.inputs;
            inputs[Law.FALL] = land.height[from] - land.height[to];
            inputs[Law.BELIEF] = belief;
            inputs[Law.DOUBT] = doubt;
            inputs[Law.NEAR] = near;
            inputs[Law.DUG] = ditch == NONE ? 0 : state.dug[ditch];
            inputs[Law.RAN] = ditch == NONE ? 0 : state.ran[ditch];
            inputs[Law.DAY] = state.day;
            inputs[Law.FROM] = from;
            inputs[Law.TO] = to;
            return law.drawOfInputs();
        }

        int goesOn(State state, int from) {
            int greatest = 0;
            int goal = NONE;
            for (int to = 0; to < land.places; to++) {
                if ((land.links[from] >> to & 1) != 0) {
                    int drawn = draw(state, from, to);
                    if (drawn > greatest) {
                        greatest = drawn;
                        goal = to;
                    }
                }
            }
            return goal;
        }

        void trace(State state) {
            length = 0;
            bits = 0;
            int at = land.spring;
            while (length < land.places) {
                path[length] = at;
                length++;
                bits |= 1 << at;
                int next = goesOn(state, at);
                if (next == NONE || (bits >> next & 1) != 0) {
                    return;
                }
                at = next;
            }
        }

        int end() {
            return length == 0 ? NONE : path[length - 1];
        }

        int rank(int place) {
            for (int k = 0; k < length; k++) {
                if (path[k] == place) {
                    return k;
                }
            }
            return NONE;
        }

        /** The COURSE in one number: 4 bits a PLACE, and 0 for no PLACE. */
        long key() {
            long sum = 0;
            for (int k = 0; k < length; k++) {
                sum = sum << 4 | path[k] + 1;
            }
            return sum;
        }

        boolean walk(State state, int person, int place) {
            if (land.between(state.where[person], place) == NONE) {
                return false;
            }
            state.where[person] = place;
            return true;
        }

        boolean dig(State state, int from, int to) {
            int ditch = land.between(from, to);
            if (ditch == NONE || state.dug[ditch] >= MOST_DUG) {
                return false;
            }
            state.dug[ditch]++;
            return true;
        }

        /** Goes by the COURSE that was traced last: whoever asks of each day needs it traced but once. */
        void flowOneDay(State state) {
            for (int k = 0; k + 1 < length; k++) {
                int from = path[k];
                int to = path[k + 1];
                int ditch = land.between(from, to);
                if (ditch != NONE) {
                    state.ran[ditch]++;
                }
                for (int p = 0; p < state.persons; p++) {
                    if (state.where[p] == from) {
                        state.tell(p, from, to);
                    }
                }
            }
            state.day++;
        }
    }

    /** The STATES ahead of the WORKS that can be undone; each is made when it is first needed. */
    private static final class Past {
        int size;
        private final State[] kept = new State[MOST_WORKS];

        void clear() {
            size = 0;
        }

        void push(State state) {
            if (size < MOST_WORKS) {
                keepAt(size, state);
                size++;
            }
        }

        private void keepAt(int at, State state) {
            if (kept[at] == null) {
                kept[at] = new State();
            }
            kept[at].copyFrom(state);
        }

        void popInto(State state) {
            if (size > 0 && kept[size - 1] != null) {
                size--;
                state.copyFrom(kept[size]);
            }
        }

        void copyFrom(Past other) {
            for (int k = 0; k < other.size; k++) {
                if (other.kept[k] != null) {
                    keepAt(k, other.kept[k]);
                }
            }
            size = other.size;
        }
    }

    /** The IMAGES; each keeps WORKS to undo of its own, for later WORKS overwrite the rows in use. */
    private static final class Images {
        int size;
        private final State[] states = new State[MOST_IMAGES];
        private final Past[] pasts = new Past[MOST_IMAGES];

        void clear() {
            size = 0;
        }

        boolean keep(State state, Past past) {
            if (size >= MOST_IMAGES) {
                return false;
            }
            if (states[size] == null || pasts[size] == null) {
                states[size] = new State();
                pasts[size] = new Past();
            }
            states[size].copyFrom(state);
            pasts[size].copyFrom(past);
            size++;
            return true;
        }

        boolean putBack(State state, Past past) {
            if (size == 0 || states[size - 1] == null || pasts[size - 1] == null) {
                return false;
            }
            size--;
            state.copyFrom(states[size]);
            past.copyFrom(pasts[size]);
            return true;
        }
    }

    /** What is asked of a STATE; only a trial copy of it is ever changed. */
    private static final class Asker {
        private static final int MOST_STAY = 60;
        private static final int SAME_DAYS = 20;

        int fewestTellings;
        int firstTelling;
        int sets;
        int firstSet;
        int sure;
        int lookPlace;
        int lookWorst;
        int rests;
        int firstRest;
        int restGain;
        private final Land land;
        private final River river;
        private final State trial = new State();
        private final int[] next = new int[MOST_PLACES];
        private final int[] byPair = new int[MOST_PLACES * MOST_PLACES];
        private final int[] tally = new int[MOST_PLACES * (MOST_PLACES + 1)];

        Asker(Land aLand, River aRiver) {
            land = aLand;
            river = aRiver;
        }

        void traceAhead(State now, int days) {
            trial.copyFrom(now);
            river.trace(trial);
            for (int k = 0; k < days; k++) {
                river.flowOneDay(trial);
                river.trace(trial);
            }
        }

        int findStay(State now) {
            trial.copyFrom(now);
            long latest = NONE;
            int since = 0;
            for (int k = 0; k <= MOST_STAY + SAME_DAYS; k++) {
                river.trace(trial);
                if (river.key() != latest) {
                    latest = river.key();
                    since = k;
                }
                if (k - since == SAME_DAYS) {
                    return since;
                }
                river.flowOneDay(trial);
            }
            return NONE;
        }

        void findTellings(State now, int person, int place) {
            trial.copyFrom(now);
            for (int a = 0; a < land.places; a++) {
                next[a] = river.goesOn(trial, a);
                turnByTells(person, a);
            }
            fewestTellings = 0;
            firstTelling = NONE;
            if (comesTo(place)) {
                return;
            }
            fewestTellings = 1;
            firstTelling = firstOfTellings(place, false);
            if (firstTelling == NONE) {
                fewestTellings = 2;
                firstTelling = firstOfTellings(place, true);
            }
            if (firstTelling == NONE) {
                fewestTellings = NONE;
            }
        }

        /** What is believed of a PLACE draws the river from there alone, so each tell is tried for itself. */
        private void turnByTells(int person, int a) {
            for (int b = 0; b < land.places; b++) {
                if (land.between(a, b) != NONE) {
                    trial.tell(person, a, b);
                    byPair[a * MOST_PLACES + b] = river.goesOn(trial, a);
                }
            }
        }

        /** A REFUSED tell changes nothing, so it is never one of the fewest and needs no care here. */
        private int firstOfTellings(int place, boolean withSecond) {
            for (int a = 0; a < land.places; a++) {
                int untold = next[a];
                for (int b = 0; b < land.places; b++) {
                    if (land.between(a, b) != NONE) {
                        next[a] = byPair[a * MOST_PLACES + b];
                        if (withSecond ? secondHelps(place, a) : comesTo(place)) {
                            return 100 * a + b;
                        }
                    }
                }
                next[a] = untold;
            }
            return NONE;
        }

        /** A second tell of the first one's PLACE leaves what one tell or none leaves: it is not tried. */
        private boolean secondHelps(int place, int first) {
            for (int a = 0; a < land.places; a++) {
                int untold = next[a];
                for (int b = 0; b < land.places; b++) {
                    if (a != first && land.between(a, b) != NONE) {
                        next[a] = byPair[a * MOST_PLACES + b];
                        if (comesTo(place)) {
                            return true;
                        }
                    }
                }
                next[a] = untold;
            }
            return false;
        }

        /** Who goes in a circle comes to nothing new, so as many turns as there are PLACES are enough. */
        private boolean comesTo(int place) {
            int at = land.spring;
            for (int k = 0; k < land.places && at != NONE; k++) {
                if (at == place) {
                    return true;
                }
                at = next[at];
            }
            return false;
        }

        int findSilence(State now, int place) {
            int best = NONE;
            int fewest = land.persons + 1;
            for (int set = 0; set < 1 << land.persons; set++) {
                if (Integer.bitCount(set) < fewest) {
                    tryForgotten(now, set);
                    river.trace(trial);
                    if ((river.bits >> place & 1) != 0) {
                        best = set;
                        fewest = Integer.bitCount(set);
                    }
                }
            }
            return best;
        }

        private void tryForgotten(State now, int set) {
            trial.copyFrom(now);
            trial.forgetAll(set);
        }

        void findSets(State now, Book book) {
            sets = 0;
            firstSet = NONE;
            sure = 0;
            for (int set = 0; set < 1 << land.persons; set++) {
                tryForgotten(now, set);
                if (goesAsTold(book)) {
                    firstSet = sets == 0 ? set : firstSet;
                    sure = sets == 0 ? set : sure & set;
                    sets++;
                }
            }
        }

        private boolean goesAsTold(Book book) {
            for (int a = 0; a < land.places; a++) {
                int told = book.wentOn[a];
                if (told != NONE && river.goesOn(trial, a) != told) {
                    return false;
                }
            }
            return true;
        }

        void findLook(State now, Book book) {
            for (int k = 0; k < tally.length; k++) {
                tally[k] = 0;
            }
            for (int set = 0; set < 1 << land.persons; set++) {
                tryForgotten(now, set);
                if (goesAsTold(book)) {
                    tallyOpenPlaces(book);
                }
            }
            lookPlace = NONE;
            lookWorst = NONE;
            for (int a = 0; a < land.places; a++) {
                if (book.wentOn[a] == NONE) {
                    int worst = worstOf(a);
                    if (lookPlace == NONE || worst < lookWorst) {
                        lookPlace = a;
                        lookWorst = worst;
                    }
                }
            }
        }

        private void tallyOpenPlaces(Book book) {
            for (int a = 0; a < land.places; a++) {
                if (book.wentOn[a] == NONE) {
                    // NONE, nowhere, is counted ahead of the PLACES.
                    tally[a * (MOST_PLACES + 1) + 1 + river.goesOn(trial, a)]++;
                }
            }
        }

        private int worstOf(int a) {
            int worst = 0;
            for (int k = 0; k <= MOST_PLACES; k++) {
                worst = Math.max(worst, tally[a * (MOST_PLACES + 1) + k]);
            }
            return worst;
        }

        int findDigs(State now, int from, int to) {
            int ditch = land.between(from, to);
            if (ditch == NONE) {
                return NONE;
            }
            trial.copyFrom(now);
            for (int dug = now.dug[ditch]; dug <= MOST_DUG; dug++) {
                trial.dug[ditch] = dug;
                if (river.goesOn(trial, from) == to) {
                    return dug - now.dug[ditch];
                }
            }
            return NONE;
        }

        void findRests(State now, int trust) {
            rests = 0;
            firstRest = NONE;
            restGain = 0;
            tryAllSayings(now, trust);
            for (int one = 0; one < land.places; one++) {
                for (int two = 0; two < land.places; two++) {
                    if (isSaid(one) && isSaid(two) && isRest(one, two)) {
                        if (rests == 0) {
                            firstRest = 100 * one + two;
                            restGain = gain(one, two, true) + gain(one, two, false);
                        }
                        rests++;
                    }
                }
            }
        }

        private void tryAllSayings(State now, int trust) {
            trial.copyFrom(now);
            trial.addLeader(trust);
            trial.addLeader(trust);
            for (int one = 0; one < land.places; one++) {
                for (int two = 0; two < land.places; two++) {
                    if (isSaid(one) && isSaid(two)) {
                        trial.tell(land.persons, land.spring, one);
                        trial.tell(land.persons + 1, land.spring, two);
                        byPair[one * MOST_PLACES + two] = river.goesOn(trial, land.spring);
                    }
                }
            }
        }

        private boolean isSaid(int place) {
            return (land.links[land.spring] >> place & 1) != 0;
        }

        private int gain(int one, int two, boolean ofOne) {
            int goes = byPair[one * MOST_PLACES + two];
            if (goes != (ofOne ? one : two)) {
                return 0;
            }
            return one == two ? 1 : 2;
        }

        private boolean isRest(int one, int two) {
            int oneHas = gain(one, two, true);
            int twoHas = gain(one, two, false);
            for (int other = 0; other < land.places; other++) {
                if (isSaid(other) && (gain(other, two, true) > oneHas || gain(one, other, false) > twoHas)) {
                    return false;
                }
            }
            return true;
        }
    }

    /** YEARS by SEEDS. */
    private static final class Years {
        private static final int CHANCES = 16;

        final State trial = new State();
        int walks;
        private final Land land;
        private final River river;
        private int seed;

        Years(Land aLand, River aRiver) {
            land = aLand;
            river = aRiver;
        }

        /** Leaves the COURSE of the YEAR's end traced in the river. */
        void live(State now, int firstSeed, int days, int q) {
            trial.copyFrom(now);
            seed = firstSeed;
            walks = 0;
            for (int k = 0; k < days; k++) {
                if (land.persons > 0) {
                    stir(q);
                }
                river.trace(trial);
                river.flowOneDay(trial);
            }
            river.trace(trial);
        }

        private void stir(int q) {
            int person = drawn(land.persons);
            int place = drawn(land.places);
            if (river.walk(trial, person, place)) {
                walks++;
            }
            if (drawn(CHANCES) < q) {
                trial.forget(person, trial.where[person]);
            }
        }

        private int drawn(int many) {
            seed = seed * 1103515245 + 12345;
            return many <= 0 ? 0 : (seed >>> 16 & 32767) % many;
        }
    }
}
