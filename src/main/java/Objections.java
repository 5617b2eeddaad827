/**
 * The vicar's crowd: objectors who take a number and are heard by gravity. What each call answers stands in the
 * document; the words in capitals here are its words.
 */
public final class Objections {
    public static final int NONE = -1;

    private static final int NO_ORDER = -1000000000;
    private static final int NO_ANSWER = -2;
    private static final int BOXES = 3;
    private static final int LAST_MINUTE = 9999;
    private static final int LONGEST_PAUSE = 60;

    private final Tape tape = new Tape();
    private final Reader reader = new Reader(tape);
    private final Book book = new Book();
    private final Room now = new Room(book);
    private final Course ahead = new Course(book);
    private final Search search = new Search(book);
    private final Advice advice = new Advice(book, now, ahead);
    private final Scales scales = new Scales(book, now);
    private final Archive archive = new Archive(now);
    private final Sights sights = new Sights(book, ahead);
    private final int[] lying = new int[Book.MOST];
    private int lyingCount = 0;

    public Objections() {
        now.begin();
    }

    public int feed(int a, int b, int c, int d, int e) {
        if (tape.length + 20 > Tape.LIMIT) {
            return NONE;
        }
        tape.put(a);
        tape.put(b);
        tape.put(c);
        tape.put(d);
        tape.put(e);
        return tape.length;
    }

    public int end(int n) {
        if (n < 0 || n > tape.length) {
            return NONE;
        }
        tape.length = n;
        return n;
    }

    public int wedding() {
        boolean good = reader.read();
        tape.length = 0;
        if (!good) {
            return NONE;
        }
        book.copy(reader.draft);
        now.begin();
        archive.forgetActs();
        archive.emptyBoxes();
        sights.forget();
        lyingCount = 0;
        return book.count;
    }

    public int fault(int what) {
        switch (what) {
            case 0: return reader.fault;
            case 1: return reader.faultPlace;
            default: return NONE;
        }
    }

    public int objector(int objector, int what) {
        if (!isTold(objector)) {
            return NO_ANSWER;
        }
        switch (what) {
            case 0: return now.sortOf(objector);
            case 1: return book.grave[objector];
            case 2: return book.minutes[objector];
            case 3: return now.number[objector];
            case 4: return now.waits(objector) ? now.waited(objector) : 0;
            case 5: return book.price[objector];
            case 6: return book.settles[objector];
            case 7: return book.brings[objector];
            default: return NO_ANSWER;
        }
    }

    public int ranks(int objector) {
        return isWaiting(objector) ? now.orderOf(objector, book.grave[objector]) : NO_ORDER;
    }

    public int hear() {
        int who = now.turn();
        if (who < 0) {
            return NONE;
        }
        archive.keepAct();
        now.hearDrawn(who);
        return who;
    }

    public int buy(int objector) {
        if (!isWaiting(objector)) {
            return NONE;
        }
        archive.keepAct();
        now.spent += book.price[objector];
        now.move(1 << objector, Room.WAITS, Room.BOUGHT);
        return now.spent;
    }

    public int pause(int minutes) {
        if (minutes < 1 || minutes > LONGEST_PAUSE) {
            return NONE;
        }
        archive.keepAct();
        return now.letPass(minutes);
    }

    public int trade(int objector, int other) {
        if (!isWaiting(objector) || !isWaiting(other) || objector == other) {
            return NONE;
        }
        archive.keepAct();
        now.exchange(objector, other);
        return now.number[objector];
    }

    public boolean undo() {
        return archive.takeBack();
    }

    public boolean redo() {
        return archive.doAgain();
    }

    public int next() {
        return now.turn();
    }

    public int queue() {
        Room room = ahead.room;
        room.copy(now);
        lyingCount = 0;
        for (int i = 0; i < Book.MOST; i++) {
            int who = room.turn();
            if (who < 0) {
                return lyingCount;
            }
            lying[i] = who;
            lyingCount = i + 1;
            // one who is BOUGHT counts in nobody's ORDER, so that the others' stay as they are
            room.move(1 << who, Room.WAITS, Room.BOUGHT);
        }
        return lyingCount;
    }

    public int dusk() {
        return ahead.goOn(now);
    }

    public int when(int objector) {
        ahead.goOn(now);
        for (int i = 0; i < ahead.count; i++) {
            if (ahead.who[i] == objector) {
                return ahead.begun[i];
            }
        }
        return NONE;
    }

    public int course() {
        ahead.goOn(now);
        lay(ahead.who, ahead.count);
        return lyingCount;
    }

    public int leavers() {
        ahead.goOn(now);
        return now.at[Room.WAITS] & ahead.room.at[Room.LEFT];
    }

    public int soonest() {
        search.run(now);
        lay(search.best, search.bestCount);
        return search.bestMinute;
    }

    public int first(int what) {
        if (what < 0 || what > 1 || !advice.findFirst()) {
            return NONE;
        }
        return what == 0 ? advice.who : advice.minute;
    }

    public int purchase(int minute, int what) {
        boolean canBe = minute >= 0 && minute <= LAST_MINUTE && (what == 0 || what == 1);
        if (!canBe || !advice.findPurchase(minute)) {
            return NONE;
        }
        return what == 0 ? advice.price : advice.who;
    }

    public int boast(int objector) {
        return isWaiting(objector) ? advice.leastGrave(objector) : NONE;
    }

    public int weight() {
        return scales.weigh(now.at[Room.STANDS]);
    }

    public int threat(int what) {
        if (what < 0 || what > 1 || !scales.findThreat()) {
            return NONE;
        }
        return what == 0 ? Integer.bitCount(scales.threatening) : scales.threatening;
    }

    public int bars() {
        return scales.countThreats();
    }

    public int gain(int objector) {
        if (!isWaiting(objector)) {
            return NO_ORDER;
        }
        return advice.duskWithout(0) - advice.duskWithout(1 << objector);
    }

    public int crowd(int objector) {
        return isTold(objector) ? book.crowdOf(objector) : NONE;
    }

    public int odds(int set, int part) {
        return canBeDrawn(set, part) ? scales.oddsOf(set, part) : NONE;
    }

    public int peril(int set, int part) {
        return canBeDrawn(set, part) ? scales.perilOf(set, part) : NONE;
    }

    public int tarry(int what) {
        if (what < 0 || what > 1) {
            return NONE;
        }
        advice.findTarry(LONGEST_PAUSE);
        return what == 0 ? advice.minutes : advice.minute;
    }

    public int swap(int what) {
        if (what < 0 || what > 2 || !advice.findSwap()) {
            return NONE;
        }
        switch (what) {
            case 0: return advice.who;
            case 1: return advice.other;
            default: return advice.minute;
        }
    }

    public int by(int n) {
        if (n < 0 || n > LAST_MINUTE) {
            return NONE;
        }
        ahead.goOn(now);
        int begun = 0;
        for (int i = 0; i < ahead.count; i++) {
            if (ahead.begun[i] <= n) {
                begun++;
            }
        }
        return begun;
    }

    public int upset() {
        ahead.goOn(now);
        int upsets = 0;
        for (int i = 1; i < ahead.count; i++) {
            if (book.grave[ahead.who[i - 1]] < book.grave[ahead.who[i]]) {
                upsets++;
            }
        }
        return upsets;
    }

    public int lies(int i) {
        return i >= 0 && i < lyingCount ? lying[i] : NONE;
    }

    public int seen(int place, int objector, boolean is) {
        boolean canBe = place >= 1 && place <= Book.MOST && isTold(objector);
        return canBe ? sights.tell(place - 1, objector, is) : NONE;
    }

    public boolean untell(int seen) {
        return sights.takeBack(seen);
    }

    public int later(int by) {
        return sights.passTime(by);
    }

    public int fits(int k) {
        return sights.mark(k);
    }

    public int sure(int what, int k) {
        if (what < 0 || what > 1 || sights.mark(k) == 0) {
            return NONE;
        }
        return what == 0 ? sights.leastFitting() : sights.greatestFitting();
    }

    public int ask(int what, int k) {
        if (what < 0 || what > 1 || sights.mark(k) == 0) {
            return NONE;
        }
        sights.findPlace();
        return what == 0 ? sights.askPlace + 1 : sights.askLeft;
    }

    public int image(int box) {
        if (box < 0 || box >= BOXES) {
            return NONE;
        }
        archive.keepImage(box);
        return now.minute;
    }

    public int back(int box) {
        if (box < 0 || box >= BOXES || !archive.goBack(box)) {
            return NONE;
        }
        return now.minute;
    }

    public int about(int what) {
        switch (what) {
            case 0: return book.count;
            case 1: return now.minute;
            case 2: return now.seed;
            case 3: return now.spent;
            case 4: return book.bar;
            case 5: return scales.isBarredBy(now.at[Room.STANDS]) ? 1 : 0;
            case 6: return now.at[Room.WAITS];
            case 7: return now.at[Room.STANDS];
            case 8: return archive.done;
            case 9: return archive.undone;
            case 10: return sights.count;
            case 11: return sights.time;
            case 12: return tape.length;
            case 13: return book.units;
            case 14: return lyingCount;
            default: return NONE;
        }
    }

    private boolean isTold(int objector) {
        return objector >= 0 && objector < book.count;
    }

    private boolean isWaiting(int objector) {
        return isTold(objector) && now.waits(objector);
    }

    private boolean canBeDrawn(int set, int part) {
        boolean allWait = (set & ~now.at[Room.WAITS]) == 0;
        return allWait && Integer.bitCount(set) <= Scales.MOST_DRAWN && (part == 0 || part == 1);
    }

    private void lay(int[] row, int count) {
        lyingCount = count;
        System.arraycopy(row, 0, lying, 0, count);
    }

    /** The bytes told for the next WEDDING, and that TOKEN of them which is being read. */
    private static final class Tape {
        static final int LIMIT = 1600;

        // What a TOKEN can be: one of these, a sign (its byte), or a word that stands for itself.
        static final int END = 0;
        static final int NO_TOKEN = 1;
        static final int NAME = 2;
        static final int NUMBER = 3;
        static final int GRAVE = 100;
        static final int MINUTES = 101;
        static final int MINUTE = 105;
        static final int OBJECTOR = 106;
        static final int STAYS = 107;
        static final int PRICE = 108;
        static final int LATE = 109;
        static final int SETTLES = 110;
        static final int BRINGS = 111;
        static final int JOINED = 112;
        static final int ORDER = 113;
        static final int ANSWER = 114;
        static final int BAR = 115;
        static final int DRAW = 116;
        static final int OR = 117;
        static final int AND = 118;
        static final int NOT = 119;

        // In the order of the numbers above, from GRAVE on; the first six are the facts of a Formula.
        private static final String WORDS = "grave minutes waited number heard minute objector stays price late settles brings joined order answer bar draw or and not";
        private static final int WORD_COUNT = 20;
        private static final int LETTERS = 8;
        private static final int DIGITS = 4;

        final byte[] bytes = new byte[LIMIT];
        int length = 0;
        int kind = END;
        int place = 0;
        int number = 0;
        long name = 0;
        private int at = 0;
        private final long[] words = new long[WORD_COUNT];

        Tape() {
            int word = 0;
            for (int i = 0; i < WORDS.length(); i++) {
                int letter = WORDS.charAt(i);
                if (!isLetter(letter)) {
                    word++;
                } else if (word < WORD_COUNT) {
                    words[word] = withLetter(words[word], letter);
                }
            }
        }

        void put(int four) {
            for (int shift = 24; shift >= 0 && length < LIMIT; shift -= 8) {
                bytes[length] = (byte) (four >>> shift);
                length++;
            }
        }

        void rewind() {
            at = 0;
            step();
        }

        /** Goes on to the TOKEN behind this one. */
        void step() {
            while (at < length && (bytes[at] == ' ' || bytes[at] == '\n')) {
                at++;
            }
            place = at;
            if (at >= length) {
                kind = END;
                return;
            }
            int sign = bytes[at];
            if (isLetter(sign)) {
                readWord();
            } else if (isDigit(sign)) {
                readNumber();
            } else {
                kind = isSign(sign) ? sign : NO_TOKEN;
                at++;
            }
        }

        private void readWord() {
            long code = 0;
            int letters = 0;
            for (; at < length && isLetter(bytes[at]); at++) {
                code = withLetter(code, bytes[at]);
                letters++;
            }
            name = code;
            kind = letters <= LETTERS ? NAME : NO_TOKEN;
            for (int i = 0; i < WORD_COUNT && kind == NAME; i++) {
                if (words[i] == code) {
                    kind = GRAVE + i;
                }
            }
        }

        private void readNumber() {
            int digits = 0;
            number = 0;
            for (; at < length && isDigit(bytes[at]); at++) {
                number = number * 10 + bytes[at] - '0';
                digits++;
            }
            boolean letterBehind = at < length && isLetter(bytes[at]);
            kind = digits <= DIGITS && !letterBehind ? NUMBER : NO_TOKEN;
        }

        private static long withLetter(long code, int letter) {
            return code * 32 + letter - 'a' + 1;
        }

        private static boolean isLetter(int sign) {
            return sign >= 'a' && sign <= 'z';
        }

        private static boolean isDigit(int sign) {
            return sign >= '0' && sign <= '9';
        }

        private static boolean isSign(int sign) {
            switch (sign) {
                case ';': case '(': case ')': case '<': case '>': case '=':
                case '+': case '-': case '*': case '/': case '%':
                    return true;
                default:
                    return false;
            }
        }
    }

    /** Reads a WEDDING from the TAPE into a draft, so that a FAULT leaves the WEDDING that is. */
    private static final class Reader {
        // The FAULTS.
        private static final int NO_TOKEN = 1;
        private static final int MISPLACED = 2;
        private static final int TOLD_ALREADY = 3;
        private static final int NUMBER_CANT_BE = 4;
        private static final int UNKNOWN_NAME = 5;

        private static final int MOST_SETTLES = 12;
        private static final int MOST_BRINGS = 6;
        private static final int MOST_JOINED = 6;
        private static final int MOST_UNITS = 60;
        private static final int MOST_UNITS_IN_ONE = 30;
        private static final int MOST_WITHIN = 6;

        // How the parts of an e hold one another, the loosest first.
        private static final int EITHER = 0;
        private static final int BOTH = 1;
        private static final int ONE = 2;
        private static final int SUM = 3;
        private static final int TERM = 4;
        private static final int UNIT = 5;

        final Book draft = new Book();
        int fault = 0;
        int faultPlace = NONE;
        private final Tape tape;
        private final long[] names = new long[Book.MOST];
        private int toldOnce = 0;
        private int joinedCount = 0;
        private int amount = 0;
        private int one = 0;
        private int two = 0;
        private Formula target = draft.order;
        private int unitsInOne = 0;

        Reader(Tape tape) {
            this.tape = tape;
        }

        boolean read() {
            draft.clear();
            fault = 0;
            faultPlace = NONE;
            toldOnce = 0;
            joinedCount = 0;
            tape.rewind();
            boolean good = true;
            for (int lines = 0; lines <= Tape.LIMIT && good && tape.kind != Tape.END; lines++) {
                switch (tape.kind) {
                    case Tape.OBJECTOR: good = readObjector(); break;
                    case Tape.SETTLES: good = readWhom(draft.settles, MOST_SETTLES); break;
                    case Tape.BRINGS: good = readWhom(draft.brings, MOST_BRINGS); break;
                    case Tape.JOINED: good = readJoined(); break;
                    case Tape.ORDER: good = readFormula(draft.order); break;
                    case Tape.ANSWER: good = readFormula(draft.answer); break;
                    case Tape.BAR: good = readBar(); break;
                    case Tape.DRAW: good = readDraw(); break;
                    default: good = misplaced();
                }
            }
            return good;
        }

        private boolean readObjector() {
            int who = draft.count;
            if (who >= Book.MOST) {
                return misplaced();
            }
            tape.step();
            if (!readNewName(who) || !take(Tape.GRAVE) || !readAmount(0, 99)) {
                return false;
            }
            draft.grave[who] = amount;
            if (!take(Tape.MINUTES) || !readAmount(1, 60)) {
                return false;
            }
            draft.minutes[who] = amount;
            amount = 999;
            if (tape.kind == Tape.STAYS && !(take(Tape.STAYS) && readAmount(0, 999))) {
                return false;
            }
            draft.stays[who] = amount;
            amount = 0;
            if (tape.kind == Tape.PRICE && !(take(Tape.PRICE) && readAmount(0, 99))) {
                return false;
            }
            draft.price[who] = amount;
            if (tape.kind == Tape.LATE) {
                draft.late |= 1 << who;
                tape.step();
            }
            draft.count = who + 1;
            return take(';');
        }

        private boolean readWhom(int[] whom, int most) {
            int told = 0;
            for (int i = 0; i < draft.count; i++) {
                told += Integer.bitCount(whom[i]);
            }
            if (told >= most) {
                return misplaced();
            }
            if (!readTwoNames()) {
                return false;
            }
            if ((whom[one] >> two & 1) != 0) {
                return refuse(TOLD_ALREADY);
            }
            whom[one] |= 1 << two;
            tape.step();
            return take(';');
        }

        private boolean readJoined() {
            if (joinedCount >= MOST_JOINED) {
                return misplaced();
            }
            if (!readTwoNames()) {
                return false;
            }
            if (draft.joined[one * Book.MOST + two] != 0) {
                return refuse(TOLD_ALREADY);
            }
            tape.step();
            if (!readAmount(1, 99)) {
                return false;
            }
            draft.joined[one * Book.MOST + two] = amount;
            draft.joined[two * Book.MOST + one] = amount;
            joinedCount++;
            return take(';');
        }

        private boolean readFormula(Formula formula) {
            if (!beginOnce()) {
                return false;
            }
            target = formula;
            target.clear();
            unitsInOne = 0;
            return readPart(EITHER, 0) && take(';');
        }

        private boolean readBar() {
            if (!beginOnce() || !readAmount(1, 999)) {
                return false;
            }
            draft.bar = amount;
            return take(';');
        }

        private boolean readDraw() {
            if (!beginOnce() || !readAmount(0, 999)) {
                return false;
            }
            draft.draw = amount;
            return take(';');
        }

        /** Goes behind the first word of a line that can be told once. */
        private boolean beginOnce() {
            int bit = 1 << tape.kind - Tape.ORDER;
            if ((toldOnce & bit) != 0) {
                return misplaced();
            }
            toldOnce |= bit;
            tape.step();
            return true;
        }

        /** Reads an e or a part of it, which stands within so many units ( e ) and ones behind not. */
        private boolean readPart(int level, int within) {
            if (level >= UNIT) {
                return readUnit(within);
            }
            if (level == ONE && tape.kind == Tape.NOT) {
                return readNot(within);
            }
            if (!readPart(level + 1, within)) {
                return false;
            }
            for (int i = 0; i < Tape.LIMIT && levelOf(tape.kind) == level; i++) {
                int sign = tape.kind;
                tape.step();
                if (!readPart(level + 1, within)) {
                    return false;
                }
                target.add(-sign);
                if (level == ONE) {
                    return true;
                }
            }
            return true;
        }

        private boolean readNot(int within) {
            if (within > MOST_WITHIN) {
                return misplaced();
            }
            tape.step();
            if (!readPart(ONE, within + 1)) {
                return false;
            }
            target.add(-Tape.NOT);
            return true;
        }

        private boolean readUnit(int within) {
            int kind = tape.kind;
            boolean whole = kind == '(';
            boolean plain = kind == Tape.NUMBER || Formula.isFact(kind);
            if (!whole && !plain || unitsInOne >= MOST_UNITS_IN_ONE || draft.units >= MOST_UNITS) {
                return misplaced();
            }
            unitsInOne++;
            draft.units++;
            if (plain) {
                target.add(kind == Tape.NUMBER ? tape.number : -kind);
                tape.step();
                return true;
            }
            if (within > MOST_WITHIN) {
                return misplaced();
            }
            tape.step();
            if (!readPart(EITHER, within + 1)) {
                return false;
            }
            if (tape.kind != ')') {
                return misplaced();
            }
            tape.step();
            return true;
        }

        /** The level at which a sign or word joins two parts; NONE if it joins none. */
        private static int levelOf(int kind) {
            switch (kind) {
                case Tape.OR: return EITHER;
                case Tape.AND: return BOTH;
                case '<': case '>': case '=': return ONE;
                case '+': case '-': return SUM;
                case '*': case '/': case '%': return TERM;
                default: return NONE;
            }
        }

        private boolean readNewName(int who) {
            if (tape.kind != Tape.NAME) {
                return misplaced();
            }
            if (find() >= 0) {
                return refuse(TOLD_ALREADY);
            }
            names[who] = tape.name;
            tape.step();
            return true;
        }

        /** Reads the NAMES of two; the second stays the TOKEN that is read, for what may be wrong with both. */
        private boolean readTwoNames() {
            tape.step();
            one = find();
            if (one < 0) {
                return tape.kind == Tape.NAME ? refuse(UNKNOWN_NAME) : misplaced();
            }
            tape.step();
            two = find();
            if (two < 0) {
                return tape.kind == Tape.NAME ? refuse(UNKNOWN_NAME) : misplaced();
            }
            return one != two || refuse(TOLD_ALREADY);
        }

        /** Which OBJECTOR the TOKEN names; NONE if it is the NAME of none, or no NAME. */
        private int find() {
            for (int i = 0; i < draft.count; i++) {
                if (tape.kind == Tape.NAME && names[i] == tape.name) {
                    return i;
                }
            }
            return NONE;
        }

        private boolean readAmount(int least, int most) {
            if (tape.kind != Tape.NUMBER) {
                return misplaced();
            }
            if (tape.number < least || tape.number > most) {
                return refuse(NUMBER_CANT_BE);
            }
            amount = tape.number;
            tape.step();
            return true;
        }

        private boolean take(int kind) {
            if (tape.kind != kind) {
                return misplaced();
            }
            tape.step();
            return true;
        }

        private boolean misplaced() {
            return refuse(tape.kind == Tape.NO_TOKEN ? NO_TOKEN : MISPLACED);
        }

        private boolean refuse(int why) {
            fault = why;
            faultPlace = tape.place;
            return false;
        }
    }

    /** What comes of an ORDER or an answer: its units and signs in the order in which a stack takes them. */
    private static final class Formula {
        static final int FACTS = 6;
        private static final int MOST_STEPS = 300;
        private static final int MOST_HEIGHT = 32;

        // A number is a step as it is; any other TOKEN is one as its kind below 0.
        private final int[] steps = new int[MOST_STEPS];
        private int count = 0;
        private final int[] stack = new int[MOST_HEIGHT];

        static boolean isFact(int kind) {
            return kind >= Tape.GRAVE && kind <= Tape.MINUTE;
        }

        void clear() {
            count = 0;
        }

        void add(int step) {
            if (count < MOST_STEPS) {
                steps[count] = step;
                count++;
            }
        }

        void copy(Formula other) {
            count = other.count;
            System.arraycopy(other.steps, 0, steps, 0, count);
        }

        /** The facts stand as their words do: grave, minutes, waited, number, heard, minute. */
        int value(int[] facts) {
            int height = 0;
            for (int i = 0; i < count; i++) {
                int step = steps[i];
                if (step >= 0 || isFact(-step)) {
                    if (height < MOST_HEIGHT) {
                        stack[height] = step >= 0 ? step : facts[-step - Tape.GRAVE];
                        height++;
                    }
                } else if (step == -Tape.NOT) {
                    if (height > 0) {
                        stack[height - 1] = stack[height - 1] == 0 ? 1 : 0;
                    }
                } else if (height > 1) {
                    height--;
                    stack[height - 1] = join(-step, stack[height - 1], stack[height]);
                }
            }
            return height > 0 ? stack[0] : 0;
        }

        private static int join(int sign, int left, int right) {
            switch (sign) {
                case '+': return left + right;
                case '-': return left - right;
                case '*': return left * right;
                case '/': return right == 0 ? 0 : left / right;
                case '%': return right == 0 ? 0 : left % right;
                case '<': return left < right ? 1 : 0;
                case '>': return left > right ? 1 : 0;
                case '=': return left == right ? 1 : 0;
                case Tape.AND: return left != 0 && right != 0 ? 1 : 0;
                case Tape.OR: return left != 0 || right != 0 ? 1 : 0;
                default: return 0;
            }
        }
    }

    /** The WEDDING as it was told. */
    private static final class Book {
        static final int MOST = 7;

        int count = 0;
        final int[] grave = new int[MOST];
        final int[] minutes = new int[MOST];
        final int[] stays = new int[MOST];
        final int[] price = new int[MOST];
        final int[] settles = new int[MOST];
        final int[] brings = new int[MOST];
        final int[] joined = new int[MOST * MOST];
        int late = 0;
        int bar = 100;
        int draw = 0;
        int units = 0;
        final Formula order = new Formula();
        final Formula answer = new Formula();

        Book() {
            clear();
        }

        void clear() {
            count = 0;
            late = 0;
            bar = 100;
            draw = 0;
            units = 0;
            for (int i = 0; i < MOST; i++) {
                settles[i] = 0;
                brings[i] = 0;
            }
            for (int i = 0; i < MOST * MOST; i++) {
                joined[i] = 0;
            }
            order.clear();
            order.add(-Tape.GRAVE);
            answer.clear();
            answer.add(100);
        }

        void copy(Book other) {
            count = other.count;
            late = other.late;
            bar = other.bar;
            draw = other.draw;
            units = other.units;
            System.arraycopy(other.grave, 0, grave, 0, MOST);
            System.arraycopy(other.minutes, 0, minutes, 0, MOST);
            System.arraycopy(other.stays, 0, stays, 0, MOST);
            System.arraycopy(other.price, 0, price, 0, MOST);
            System.arraycopy(other.settles, 0, settles, 0, MOST);
            System.arraycopy(other.brings, 0, brings, 0, MOST);
            System.arraycopy(other.joined, 0, joined, 0, MOST * MOST);
            order.copy(other.order);
            answer.copy(other.answer);
        }

        int crowdOf(int who) {
            int crowd = 1 << who;
            for (int round = 0; round < count; round++) {
                for (int i = 0; i < count; i++) {
                    crowd |= (crowd >> i & 1) != 0 ? brings[i] : 0;
                }
            }
            return crowd;
        }
    }

    /** What is so at a minute: what each OBJECTOR is, since when, his NUMBER, what is spent, the SEED. */
    private static final class Room {
        static final int WAITS = 0;
        static final int ANSWERED = 1;
        static final int STANDS = 2;
        static final int WITHDREW = 3;
        static final int LEFT = 4;
        static final int BOUGHT = 5;
        static final int AWAY = 6;
        static final int SORTS = 7;
        static final int SIZE = SORTS + Book.MOST + Book.MOST + 3;

        final int[] at = new int[SORTS];
        final int[] number = new int[Book.MOST];
        final int[] came = new int[Book.MOST];
        int minute = 0;
        int spent = 0;
        int seed = 0;
        private final Book book;
        private final int[] facts = new int[Formula.FACTS];

        Room(Book book) {
            this.book = book;
        }

        /** All is as told. */
        void begin() {
            for (int i = 0; i < SORTS; i++) {
                at[i] = 0;
            }
            at[AWAY] = book.late;
            at[WAITS] = (1 << book.count) - 1 & ~book.late;
            for (int i = 0; i < Book.MOST; i++) {
                number[i] = i;
                came[i] = 0;
            }
            minute = 0;
            spent = 0;
            seed = book.draw;
        }

        void copy(Room other) {
            System.arraycopy(other.at, 0, at, 0, SORTS);
            System.arraycopy(other.number, 0, number, 0, Book.MOST);
            System.arraycopy(other.came, 0, came, 0, Book.MOST);
            minute = other.minute;
            spent = other.spent;
            seed = other.seed;
        }

        /** Writes all into SIZE numbers of the rows, from this one on. */
        void write(int[] rows, int from) {
            if (from < 0 || from > rows.length - SIZE) {
                return;
            }
            System.arraycopy(at, 0, rows, from, SORTS);
            System.arraycopy(number, 0, rows, from + SORTS, Book.MOST);
            System.arraycopy(came, 0, rows, from + SORTS + Book.MOST, Book.MOST);
            rows[from + SIZE - 3] = minute;
            rows[from + SIZE - 2] = spent;
            rows[from + SIZE - 1] = seed;
        }

        /** All is as it was written there. */
        void restore(int[] rows, int from) {
            if (from < 0 || from > rows.length - SIZE) {
                return;
            }
            System.arraycopy(rows, from, at, 0, SORTS);
            System.arraycopy(rows, from + SORTS, number, 0, Book.MOST);
            System.arraycopy(rows, from + SORTS + Book.MOST, came, 0, Book.MOST);
            minute = rows[from + SIZE - 3];
            spent = rows[from + SIZE - 2];
            seed = rows[from + SIZE - 1];
        }

        boolean waits(int who) {
            return (at[WAITS] >> who & 1) != 0;
        }

        int waited(int who) {
            return minute - came[who];
        }

        int sortOf(int who) {
            for (int i = 0; i < SORTS; i++) {
                if ((at[i] >> who & 1) != 0) {
                    return i;
                }
            }
            return NO_ANSWER;
        }

        /** His ORDER, if he were so grave. */
        int orderOf(int who, int grave) {
            gather(who, grave);
            return book.order.value(facts);
        }

        int answerOf(int who) {
            gather(who, book.grave[who]);
            return book.answer.value(facts);
        }

        private void gather(int who, int grave) {
            facts[0] = grave;
            facts[1] = book.minutes[who];
            facts[2] = waited(who);
            facts[3] = number[who];
            facts[4] = Integer.bitCount(at[ANSWERED] | at[STANDS]);
            facts[5] = minute;
        }

        /** Whose TURN it is; NONE if nobody WAITS. */
        int turn() {
            int best = NONE;
            int bestOrder = 0;
            for (int i = 0; i < book.count; i++) {
                if (waits(i)) {
                    gather(i, book.grave[i]);
                    int order = book.order.value(facts);
                    if (best < 0 || order > bestOrder || order == bestOrder && number[i] < number[best]) {
                        best = i;
                        bestOrder = order;
                    }
                }
            }
            return best;
        }

        void move(int who, int from, int to) {
            at[from] &= ~who;
            at[to] |= who;
        }

        void hearDrawn(int who) {
            int answer = answerOf(who);
            seed = (seed * 137 + 71) % 1000;
            hearAs(who, seed % 100 < answer ? ANSWERED : STANDS);
        }

        void hearAs(int who, int becomes) {
            move(1 << who, WAITS, becomes);
            minute += book.minutes[who];
            move(book.settles[who] & at[WAITS], WAITS, WITHDREW);
            int brought = book.brings[who] & at[AWAY];
            move(brought, AWAY, WAITS);
            for (int i = 0; i < book.count; i++) {
                if ((brought >> i & 1) != 0) {
                    came[i] = minute;
                }
            }
            dismiss();
        }

        int letPass(int minutes) {
            minute += minutes;
            return dismiss();
        }

        void exchange(int one, int two) {
            int kept = number[one];
            number[one] = number[two];
            number[two] = kept;
        }

        /** Those who waited more than they stay LEFT: how many. */
        private int dismiss() {
            int leaving = 0;
            for (int i = 0; i < book.count; i++) {
                if (waits(i) && waited(i) > book.stays[i]) {
                    leaving |= 1 << i;
                }
            }
            move(leaving, WAITS, LEFT);
            return Integer.bitCount(leaving);
        }
    }

    /** Who will be HEARD, and when, if it goes on by TURNS and all are ANSWERED. */
    private static final class Course {
        final Room room;
        final int[] who = new int[Book.MOST];
        final int[] begun = new int[Book.MOST];
        int count = 0;

        Course(Book book) {
            room = new Room(book);
        }

        int goOn(Room from) {
            room.copy(from);
            return follow();
        }

        /** DUSK, from what the room is. Nobody WAITS again who was HEARD, so that no more are HEARD than there are. */
        int follow() {
            count = 0;
            for (int i = 0; i < Book.MOST; i++) {
                int turn = room.turn();
                if (turn < 0) {
                    return room.minute;
                }
                who[i] = turn;
                begun[i] = room.minute;
                count = i + 1;
                room.hearAs(turn, Room.ANSWERED);
            }
            return room.minute;
        }
    }

    /** SOONEST, by trying every row in its order. */
    private static final class Search {
        private static final int SETS = 1 << Book.MOST;
        private static final int MEMORY = 1 + Book.MOST;
        private static final int NEVER = 2147483647;

        final int[] best = new int[Book.MOST];
        int bestCount = 0;
        int bestMinute = 0;
        private final Book book;
        private final Room[] rooms = new Room[Book.MOST + 1];
        private final int[] row = new int[Book.MOST];
        private final int[] known = new int[SETS * MEMORY];

        Search(Book book) {
            this.book = book;
            for (int i = 0; i < rooms.length; i++) {
                rooms[i] = new Room(book);
            }
        }

        void run(Room now) {
            bestMinute = NEVER;
            bestCount = 0;
            for (int i = 0; i < SETS; i++) {
                known[i * MEMORY] = NONE;
            }
            rooms[0].copy(now);
            explore(this, 0);
        }

        private static void explore(Search search, int depth) {
            if (depth < 0 || depth > Book.MOST) {
                return;
            }
            Room here = search.rooms[depth];
            // The minute only goes up, and of like rows the first one stays.
            if (here.minute >= search.bestMinute) {
                return;
            }
            if (here.at[Room.WAITS] == 0) {
                search.keep(here.minute, depth);
                return;
            }
            if (depth == Book.MOST || search.wasHere(here)) {
                return;
            }
            Room then = search.rooms[depth + 1];
            for (int i = 0; i < search.book.count; i++) {
                if (here.waits(i)) {
                    then.copy(here);
                    then.hearAs(i, Room.ANSWERED);
                    search.row[depth] = i;
                    explore(search, depth + 1);
                }
            }
        }

        private void keep(int minute, int count) {
            bestMinute = minute;
            bestCount = count;
            System.arraycopy(row, 0, best, 0, count);
        }

        /**
         * Whether an earlier row led to just this: what it leads to is then known, and of like rows the earlier one is
         * the first. Who was HEARD tells the minute and who is AWAY; who WAITS and since when must be compared.
         */
        private boolean wasHere(Room here) {
            int from = (here.at[Room.ANSWERED] & SETS - 1) * MEMORY;
            int waiting = here.at[Room.WAITS];
            boolean same = known[from] == waiting;
            known[from] = waiting;
            for (int i = 0; i < Book.MOST; i++) {
                if ((waiting >> i & 1) != 0) {
                    same = same && known[from + 1 + i] == here.came[i];
                    known[from + 1 + i] = here.came[i];
                }
            }
            return same;
        }
    }

    /** What would be best to do now; each question leaves its answer here. */
    private static final class Advice {
        private static final int GRAVES = 100;

        int who = 0;
        int other = 0;
        int price = 0;
        int minutes = 0;
        int minute = 0;
        private final Book book;
        private final Room now;
        private final Course ahead;

        Advice(Book book, Room now, Course ahead) {
            this.book = book;
            this.now = now;
            this.ahead = ahead;
        }

        /** DUSK, if these were BOUGHT now. */
        int duskWithout(int bought) {
            ahead.room.copy(now);
            ahead.room.move(bought, Room.WAITS, Room.BOUGHT);
            return ahead.follow();
        }

        boolean findFirst() {
            boolean found = false;
            for (int i = 0; i < book.count; i++) {
                if (now.waits(i)) {
                    ahead.room.copy(now);
                    ahead.room.hearAs(i, Room.ANSWERED);
                    int dusk = ahead.follow();
                    if (!found || dusk < minute) {
                        found = true;
                        who = i;
                        minute = dusk;
                    }
                }
            }
            return found;
        }

        boolean findPurchase(int latest) {
            // With all of them BOUGHT, DUSK is now: nothing makes it sooner.
            if (now.minute > latest) {
                return false;
            }
            int waiting = now.at[Room.WAITS];
            who = waiting;
            price = priceOf(waiting);
            for (int set = 0; set < waiting; set++) {
                if ((set & ~waiting) == 0 && isCheaper(set) && duskWithout(set) <= latest) {
                    who = set;
                    price = priceOf(set);
                }
            }
            return true;
        }

        private boolean isCheaper(int set) {
            int cost = priceOf(set);
            return cost < price || cost == price && Integer.bitCount(set) < Integer.bitCount(who);
        }

        private int priceOf(int set) {
            int sum = 0;
            for (int i = 0; i < book.count; i++) {
                sum += (set >> i & 1) != 0 ? book.price[i] : 0;
            }
            return sum;
        }

        /** BOAST of one who WAITS: the others' ORDERS do not come of his grave. */
        int leastGrave(int boaster) {
            ahead.room.copy(now);
            ahead.room.move(1 << boaster, Room.WAITS, Room.BOUGHT);
            int rival = ahead.room.turn();
            int least = rival < 0 ? 0 : now.orderOf(rival, book.grave[rival]);
            boolean winsLike = rival < 0 || now.number[boaster] < now.number[rival];
            for (int grave = 0; grave < GRAVES; grave++) {
                int order = now.orderOf(boaster, grave);
                if (rival < 0 || order > least || order == least && winsLike) {
                    return grave;
                }
            }
            return NONE;
        }

        void findTarry(int longest) {
            for (int i = 0; i <= longest; i++) {
                ahead.room.copy(now);
                ahead.room.letPass(i);
                int dusk = ahead.follow();
                if (i == 0 || dusk < minute) {
                    minutes = i;
                    minute = dusk;
                }
            }
        }

        boolean findSwap() {
            boolean found = false;
            minute = duskWithout(0);
            for (int i = 0; i < book.count; i++) {
                for (int j = i + 1; j < book.count; j++) {
                    int dusk = now.waits(i) && now.waits(j) ? duskExchanged(i, j) : minute;
                    if (dusk < minute) {
                        found = true;
                        who = i;
                        other = j;
                        minute = dusk;
                    }
                }
            }
            return found;
        }

        private int duskExchanged(int one, int two) {
            ahead.room.copy(now);
            ahead.room.exchange(one, two);
            return ahead.follow();
        }
    }

    /** How heavy those are who STAND, or may yet. */
    private static final class Scales {
        static final int MOST_DRAWN = 4;
        private static final int SURE = 100;
        private static final int SETS = 1 << Book.MOST;
        private static final int MANY = 1000000;

        int threatening = 0;
        private final Book book;
        private final Room now;
        private final int[] chances = new int[Book.MOST];

        Scales(Book book, Room now) {
            this.book = book;
            this.now = now;
        }

        int weigh(int set) {
            int sum = 0;
            for (int i = 0; i < book.count; i++) {
                if ((set >> i & 1) != 0) {
                    sum += book.grave[i];
                    for (int j = i + 1; j < book.count; j++) {
                        sum += (set >> j & 1) != 0 ? book.joined[i * Book.MOST + j] : 0;
                    }
                }
            }
            return sum;
        }

        boolean isBarredBy(int set) {
            return weigh(set) >= book.bar;
        }

        /** Whether these all WAIT, and would bar it, if they STOOD, too. */
        private boolean threatens(int set) {
            return (set & ~now.at[Room.WAITS]) == 0 && isBarredBy(now.at[Room.STANDS] | set);
        }

        boolean findThreat() {
            boolean found = false;
            for (int set = 0; set < SETS; set++) {
                boolean fewer = !found || Integer.bitCount(set) < Integer.bitCount(threatening);
                if (fewer && threatens(set)) {
                    found = true;
                    threatening = set;
                }
            }
            return found;
        }

        int countThreats() {
            int threats = 0;
            for (int set = 0; set < SETS; set++) {
                threats += threatens(set) ? 1 : 0;
            }
            return threats;
        }

        int oddsOf(int set, int part) {
            takeChances();
            return lowest(ways(set, 0), whole(set), part);
        }

        int perilOf(int set, int part) {
            takeChances();
            int sum = 0;
            for (int unanswered = 0; unanswered < SETS; unanswered++) {
                if ((unanswered & ~set) == 0 && isBarredBy(now.at[Room.STANDS] | unanswered)) {
                    sum += ways(set, unanswered);
                }
            }
            return lowest(sum, whole(set), part);
        }

        private void takeChances() {
            for (int i = 0; i < book.count; i++) {
                chances[i] = Math.max(0, Math.min(SURE, now.answerOf(i)));
            }
        }

        /** Of all the ways of this set, those in which just these are not ANSWERED. */
        private int ways(int set, int unanswered) {
            int product = 1;
            for (int i = 0; i < book.count; i++) {
                if ((set >> i & 1) != 0) {
                    product *= (unanswered >> i & 1) != 0 ? SURE - chances[i] : chances[i];
                }
            }
            return product;
        }

        private static int whole(int set) {
            int product = 1;
            for (int i = 0; i < Integer.bitCount(set) && i < MOST_DRAWN; i++) {
                product *= SURE;
            }
            return product;
        }

        private static int lowest(int upper, int lower, int part) {
            int common = lower;
            int rest = upper;
            for (int i = 0; i < MANY && rest != 0; i++) {
                int less = common % rest;
                common = rest;
                rest = less;
            }
            int term = part == 0 ? upper : lower;
            return common == 0 ? term : term / common;
        }
    }

    /** What is kept of the past: the ACTS, as what was so ahead of each, and the BOXES. */
    private static final class Archive {
        private static final int MOST_ACTS = 40;
        private static final int ROWS = MOST_ACTS + 1;

        int done = 0;
        int undone = 0;
        private final Room now;
        private final int[] rows = new int[ROWS * Room.SIZE];
        private int oldest = 0;
        private final int[] boxes = new int[BOXES * Room.SIZE];
        private int fullBoxes = 0;

        Archive(Room now) {
            this.now = now;
        }

        void forgetActs() {
            oldest = 0;
            done = 0;
            undone = 0;
        }

        void emptyBoxes() {
            fullBoxes = 0;
        }

        private int rowOf(int act) {
            return (oldest + act) % ROWS * Room.SIZE;
        }

        /** An ACT comes now. */
        void keepAct() {
            now.write(rows, rowOf(done));
            undone = 0;
            if (done < MOST_ACTS) {
                done++;
            } else {
                oldest = (oldest + 1) % ROWS;
            }
        }

        boolean takeBack() {
            if (done == 0) {
                return false;
            }
            now.write(rows, rowOf(done));
            done--;
            undone++;
            now.restore(rows, rowOf(done));
            return true;
        }

        boolean doAgain() {
            if (undone == 0) {
                return false;
            }
            done++;
            undone--;
            now.restore(rows, rowOf(done));
            return true;
        }

        void keepImage(int box) {
            now.write(boxes, box * Room.SIZE);
            fullBoxes |= 1 << box;
        }

        boolean goBack(int box) {
            if ((fullBoxes >> box & 1) == 0) {
                return false;
            }
            now.restore(boxes, box * Room.SIZE);
            forgetActs();
            return true;
        }
    }

    /** What is SEEN, and by which graves of the last OBJECTOR it is so. */
    private static final class Sights {
        private static final int MOST_SEEN = 30;
        private static final int GRAVES = 100;
        private static final int NOBODY = Book.MOST;
        private static final int LONGEST_STEP = 1000;
        private static final int LAST_TIME = 100000;

        int count = 0;
        int time = 0;
        int askPlace = 0;
        int askLeft = 0;
        private final Book book;
        private final Course ahead;
        private final int[] place = new int[MOST_SEEN];
        private final int[] who = new int[MOST_SEEN];
        private final boolean[] is = new boolean[MOST_SEEN];
        private final int[] toldAt = new int[MOST_SEEN];
        private final int[] untoldAt = new int[MOST_SEEN];
        // Who is HEARD at each place, by each grave; it comes of the WEDDING alone, and is found once.
        private final int[] heard = new int[GRAVES * Book.MOST];
        private boolean heardIsFound = false;
        private final boolean[] fit = new boolean[GRAVES];
        private final int[] left = new int[Book.MOST + 1];

        Sights(Book book, Course ahead) {
            this.book = book;
            this.ahead = ahead;
        }

        /** There is a new WEDDING; the TIME stays. */
        void forget() {
            count = 0;
            heardIsFound = false;
        }

        int tell(int atPlace, int objector, boolean isHe) {
            if (count >= MOST_SEEN) {
                return NONE;
            }
            place[count] = atPlace;
            who[count] = objector;
            is[count] = isHe;
            toldAt[count] = time;
            untoldAt[count] = NONE;
            count++;
            return count - 1;
        }

        boolean takeBack(int number) {
            if (number < 0 || number >= count || untoldAt[number] >= 0) {
                return false;
            }
            untoldAt[number] = time;
            return true;
        }

        int passTime(int by) {
            if (by < 0 || by > LONGEST_STEP || time + by > LAST_TIME) {
                return NONE;
            }
            time += by;
            return time;
        }

        /** Marks the graves that FIT: how many. */
        int mark(int k) {
            if (book.count == 0) {
                return 0;
            }
            findHeard(book.count - 1);
            int fitting = 0;
            for (int grave = 0; grave < GRAVES; grave++) {
                fit[grave] = isSo(grave, k);
                fitting += fit[grave] ? 1 : 0;
            }
            return fitting;
        }

        private void findHeard(int last) {
            if (heardIsFound) {
                return;
            }
            int toldGrave = book.grave[last];
            for (int grave = 0; grave < GRAVES; grave++) {
                book.grave[last] = grave;
                ahead.room.begin();
                ahead.follow();
                for (int i = 0; i < Book.MOST; i++) {
                    heard[grave * Book.MOST + i] = i < ahead.count ? ahead.who[i] : NOBODY;
                }
            }
            book.grave[last] = toldGrave;
            heardIsFound = true;
        }

        private boolean isSo(int grave, int k) {
            for (int i = 0; i < count; i++) {
                boolean counts = toldAt[i] <= k && (untoldAt[i] < 0 || untoldAt[i] > k);
                boolean was = heard[grave * Book.MOST + place[i]] == who[i];
                if (counts && was != is[i]) {
                    return false;
                }
            }
            return true;
        }

        int leastFitting() {
            for (int grave = 0; grave < GRAVES; grave++) {
                if (fit[grave]) {
                    return grave;
                }
            }
            return NONE;
        }

        int greatestFitting() {
            for (int grave = GRAVES - 1; grave >= 0; grave--) {
                if (fit[grave]) {
                    return grave;
                }
            }
            return NONE;
        }

        void findPlace() {
            for (int i = 0; i < Book.MOST; i++) {
                int most = mostLeft(i);
                if (i == 0 || most < askLeft) {
                    askPlace = i;
                    askLeft = most;
                }
            }
        }

        /** How many graves would still FIT, at the most, if one knew who was HEARD at this place. */
        private int mostLeft(int atPlace) {
            for (int i = 0; i < left.length; i++) {
                left[i] = 0;
            }
            int most = 0;
            for (int grave = 0; grave < GRAVES; grave++) {
                if (fit[grave]) {
                    int whoever = heard[grave * Book.MOST + atPlace];
                    left[whoever]++;
                    most = Math.max(most, left[whoever]);
                }
            }
            return most;
        }
    }
}
