import java.util.Arrays;

/**
 * A pyramid of leagues: its clubs, their matches of a season, and what the end of that season brings.
 * The document DOC.md names every promise; the words used here are those of its terms.
 */
public final class LeagueLevels {
    public static final int NONE = -1;

    private static final int GONE = -2;
    private static final int NO_CLUB = -3;
    private static final int MOST_LEVELS = 4;
    private static final int MOST_DIVISIONS = 3;
    private static final int MOST_OF_LEVEL = 12;
    private static final int MOST_CLUBS = 30;

    private final Tape tape;
    private final Pyramid pyramid;
    private final Season season;
    private final Deeds deeds;
    private final PyramidText pyramidText;
    private final DayText dayText;
    private final Table table;
    private final Travel travel;
    private final Parting parting;
    private final Ending ending;

    public LeagueLevels() {
        tape = new Tape();
        pyramid = new Pyramid();
        season = new Season();
        deeds = new Deeds(pyramid, season);
        pyramidText = new PyramidText(tape);
        dayText = new DayText(tape, pyramid, season);
        table = new Table(pyramid, season);
        travel = new Travel(pyramid);
        parting = new Parting(pyramid, travel);
        ending = new Ending(pyramid, season, table);
    }

    public int feed(int a, int b, int c, int d, int e) {
        if (tape.length > Tape.ROOM - 20) {
            return NONE;
        }
        tape.put(a);
        tape.put(b);
        tape.put(c);
        tape.put(d);
        tape.put(e);
        return tape.length;
    }

    public boolean end(int n) {
        if (n < 0 || n > tape.length) {
            return false;
        }
        tape.length = n;
        return true;
    }

    public int pyramid() {
        boolean told = pyramidText.read();
        tape.length = 0;
        if (!told) {
            return NONE;
        }
        pyramid.copy(pyramidText.draft);
        travel.measure();
        parting.forgetAll();
        season.begin();
        season.number = 0;
        deeds.count = 0;
        return pyramid.clubs;
    }

    public int day() {
        int before = season.count;
        boolean told = dayText.read();
        tape.length = 0;
        if (!told) {
            season.keepFirst(before);
            return NONE;
        }
        int matches = season.count - before;
        if (matches > 0) {
            deeds.keep(Deeds.DAY, NONE, before);
        }
        return matches;
    }

    public int fault(int what) {
        switch (what) {
            case 0:
                return tape.fault;
            case 1:
                return tape.faultPlace;
            default:
                return NONE;
        }
    }

    public int named() {
        tape.rewind();
        tape.next();
        boolean isWord = tape.kind == Tape.WORD;
        long name = tape.word;
        tape.next();
        boolean alone = isWord && tape.kind == Tape.AT_END;
        tape.length = 0;
        return alone ? pyramid.find(name) : NONE;
    }

    public boolean resign(int club) {
        if (!pyramid.plays(club) || season.resigned[club] != 0) {
            return false;
        }
        season.resigned[club] = 1;
        deeds.keep(Deeds.RESIGN, club, 0);
        return true;
    }

    public boolean refuse(int club) {
        if (!pyramid.plays(club) || season.refused[club] != 0) {
            return false;
        }
        season.refused[club] = 1;
        deeds.keep(Deeds.REFUSE, club, 0);
        return true;
    }

    public boolean deduct(int club, int n) {
        if (!pyramid.plays(club) || n < 1 || n > 99 || season.deducted[club] + n > 999) {
            return false;
        }
        season.deducted[club] += n;
        deeds.keep(Deeds.DEDUCT, club, n);
        return true;
    }

    public boolean grade(int club, int g) {
        if (!pyramid.isClub(club) || pyramid.level[club] == GONE) {
            return false;
        }
        int old = pyramid.grade[club];
        if (g < 0 || g > 9 || g == old) {
            return false;
        }
        pyramid.grade[club] = g;
        deeds.keep(Deeds.GRADE, club, old);
        return true;
    }

    public int close() {
        if (!ending.weigh()) {
            return NONE;
        }
        int risen = ending.risenInAll();
        parting.forgetChanged(ending.goal);
        ending.moveClubs();
        parting.settle();
        season.begin();
        season.number++;
        deeds.count = 0;
        return risen;
    }

    public boolean undo() {
        return deeds.takeBack();
    }

    public int club(int club, int what) {
        if (!pyramid.isClub(club)) {
            return NO_CLUB;
        }
        switch (what) {
            case 0:
                return pyramid.x[club];
            case 1:
                return pyramid.y[club];
            case 2:
                return pyramid.grade[club];
            case 3:
                return pyramid.level[club];
            case 4:
                return pyramid.division[club];
            case 5:
                return season.resigned[club];
            case 6:
                return season.refused[club];
            case 7:
                return season.deducted[club];
            default:
                return NO_CLUB;
        }
    }

    public int of(int club, int what) {
        if (!pyramid.plays(club)) {
            return NONE;
        }
        switch (what) {
            case 0:
                return season.played[club];
            case 1:
                return season.won[club];
            case 2:
                return season.drawn[club];
            case 3:
                return season.scored[club];
            case 4:
                return season.conceded[club];
            case 5:
                table.arrange(pyramid.level[club]);
                return table.rank[club];
            case 6:
                table.arrange(pyramid.level[club]);
                return table.placeOf(club);
            case 7:
                return travel.toDivision(club, pyramid.level[club], pyramid.division[club]);
            default:
                return NONE;
        }
    }

    public int points(int club) {
        return pyramid.plays(club) ? season.pointsOf(club) : Integer.MIN_VALUE;
    }

    public int average(int club) {
        if (!pyramid.plays(club)) {
            return NONE;
        }
        int matches = season.played[club];
        if (matches < 1) {
            return 0;
        }
        return Bits.ofFloat((float) season.pointsOf(club) / (float) matches);
    }

    public int ranked(int level, int division, int r) {
        if (!pyramid.hasDivision(level, division)) {
            return NONE;
        }
        table.arrange(level);
        return table.atRank(division, r);
    }

    public int order(int level, int i) {
        if (!pyramid.hasLevel(level)) {
            return NONE;
        }
        table.arrange(level);
        return i >= 0 && i < table.count ? table.row[i] : NONE;
    }

    public int level(int level, int what) {
        if (!pyramid.hasLevel(level)) {
            return NONE;
        }
        switch (what) {
            case 0:
                return pyramid.divisions[level];
            case 1:
                return pyramid.size[level];
            case 2:
                return pyramid.down[level];
            case 3:
                return pyramid.need[level];
            case 4:
                return ending.wantingOf(level);
            case 5:
                return ending.mayRiseFrom(level);
            case 6:
                return travel.ofLevel(level);
            case 7:
                parting.partAnew(level);
                return parting.fewest[level];
            default:
                return NONE;
        }
    }

    public int moves(int level, int what, int i) {
        if (!pyramid.hasLevel(level) || what < Ending.UP || what > Ending.COME || !ending.weigh()) {
            return NONE;
        }
        int count = ending.countOf(level, what);
        if (i == NONE) {
            return count;
        }
        return i >= 0 && i < count ? ending.mover(level, what, i) : NONE;
    }

    public int would(int club) {
        return pyramid.isClub(club) && ending.weigh() ? ending.goal[club] : NO_CLUB;
    }

    public int needs(int club) {
        if (!pyramid.plays(club) || pyramid.level[club] < 1) {
            return NONE;
        }
        // A grade counts only as being below what is needed above or not: one of each kind will do.
        if (ending.risesWith(club, 0)) {
            return 0;
        }
        int need = pyramid.need[pyramid.level[club] - 1];
        return ending.risesWith(club, need) ? need : NONE;
    }

    public int parted(int club) {
        if (!pyramid.plays(club)) {
            return NONE;
        }
        parting.partAnew(pyramid.level[club]);
        return parting.anew[club];
    }

    public int swap(int level, int what) {
        if (!pyramid.hasLevel(level) || what < 0 || what > 2 || !travel.findSwap(level)) {
            return NONE;
        }
        if (what == 2) {
            return travel.saved;
        }
        return what == 0 ? travel.swapLess : travel.swapMore;
    }

    public int middle(int level) {
        return pyramid.hasLevel(level) ? travel.midmost(level) : NONE;
    }

    public long rest(int level, int division) {
        if (!pyramid.hasDivision(level, division)) {
            return NONE;
        }
        // Each match counts for both of its clubs.
        int matches = season.playedIn(pyramid, level, division) / 2;
        if (matches < 1) {
            return NONE;
        }
        double each = (double) travel.withinTwice(level, division) / (double) matches;
        return Bits.ofDouble(each - (double) (long) each);
    }

    public int match(int home, int away, int what) {
        if (!pyramid.isClub(home) || !pyramid.isClub(away)) {
            return NONE;
        }
        switch (what) {
            case 0:
                return season.homeGoals(home, away);
            case 1:
                return season.awayGoals(home, away);
            default:
                return NONE;
        }
    }

    public int above(int club) {
        return pyramid.plays(club) ? table.canReach(club) : NONE;
    }

    public int journeys(int club) {
        if (!pyramid.plays(club)) {
            return NONE;
        }
        int sum = 0;
        for (int i = 0; i < season.count; i++) {
            if (season.away[i] == club) {
                sum += 2 * travel.between(season.home[i], club);
            }
        }
        return sum;
    }

    public int nearest(int club) {
        return pyramid.plays(club) ? travel.closest(club) : NONE;
    }

    public int versus(int club, int other) {
        if (!pyramid.plays(club) || !pyramid.plays(other) || club == other) {
            return NONE;
        }
        return 10 * season.gotFrom(club, other) + season.gotFrom(other, club);
    }

    public int strangers(int level) {
        return pyramid.hasLevel(level) ? travel.strangersOf(level) : NONE;
    }

    public int show(int level, int division) {
        if (!pyramid.hasDivision(level, division)) {
            return NONE;
        }
        table.arrange(level);
        table.write(division);
        return table.shownCount;
    }

    public int out(int i) {
        return i >= 0 && i < table.shownCount ? table.shown[i] : NONE;
    }

    public int look(int what) {
        switch (what) {
            case 0:
                return pyramid.levels;
            case 1:
                return pyramid.clubs;
            case 2:
                return pyramid.howMany(NONE);
            case 3:
                return pyramid.howMany(GONE);
            case 4:
                return season.number;
            case 5:
                return season.count;
            case 6:
                return deeds.count;
            case 7:
                return tape.length;
            default:
                return NONE;
        }
    }

    /** The bytes told, read piece by piece, and the fault of the latest text. */
    private static final class Tape {
        static final int ROOM = 700;
        static final int AT_END = 0;
        static final int WORD = 1;
        static final int NUMBER = 2;
        static final int SIGN = 3;
        static final int TOO_LONG = 4;
        // A word is kept as its letters' bytes, the first one highest.
        static final long LEVEL = 0x6c6576656cL;
        static final long OF = 0x6f66L;
        static final long DOWN = 0x646f776eL;
        static final long NEED = 0x6e656564L;
        static final long CLUB = 0x636c7562L;
        static final long GRADE = 0x6772616465L;
        static final long IN = 0x696eL;
        private static final int MOST_LETTERS = 7;
        private static final int MOST_DIGITS = 3;

        private final int[] bytes;
        int length;
        int kind;
        int place;
        int number;
        int sign;
        long word;
        int fault;
        int faultPlace;
        private int at;

        Tape() {
            bytes = new int[ROOM];
            faultPlace = NONE;
        }

        void put(int four) {
            for (int shift = 24; shift >= 0; shift -= 8) {
                if (length < ROOM) {
                    bytes[length] = four >>> shift & 255;
                    length++;
                }
            }
        }

        void rewind() {
            at = 0;
        }

        void startText() {
            at = 0;
            fault = 0;
            faultPlace = NONE;
        }

        /** Always false, so that a reader can say it and leave. */
        boolean fail(int what) {
            fault = what;
            faultPlace = place;
            return false;
        }

        void next() {
            while (at < length && (bytes[at] == ' ' || bytes[at] == '\n')) {
                at++;
            }
            place = at;
            if (at >= length) {
                kind = AT_END;
                return;
            }
            sign = bytes[at];
            if (sign >= 'a' && sign <= 'z') {
                readWord();
            } else if (sign >= '0' && sign <= '9') {
                readNumber();
            } else {
                kind = SIGN;
                at++;
            }
        }

        private void readWord() {
            word = 0;
            while (at < length && bytes[at] >= 'a' && bytes[at] <= 'z') {
                word = word << 8 | bytes[at];
                at++;
            }
            kind = at - place <= MOST_LETTERS ? WORD : TOO_LONG;
        }

        private void readNumber() {
            number = 0;
            while (at < length && bytes[at] >= '0' && bytes[at] <= '9') {
                number = number * 10 + bytes[at] - '0';
                at++;
            }
            kind = at - place <= MOST_DIGITS ? NUMBER : TOO_LONG;
        }

        boolean isWord(long wanted) {
            return kind == WORD && word == wanted;
        }

        boolean isSign(char wanted) {
            return kind == SIGN && sign == wanted;
        }

        boolean isName() {
            return kind == WORD && word != LEVEL && word != OF && word != DOWN && word != NEED
                    && word != CLUB && word != GRADE && word != IN;
        }

        boolean takeWord(long wanted) {
            next();
            return isWord(wanted) || fail(1);
        }

        boolean takeSign(char wanted) {
            next();
            return isSign(wanted) || fail(1);
        }

        boolean takeName() {
            next();
            return isName() || fail(1);
        }

        /** The number that stands next, NONE with a fault if it isn't there or can't be. */
        int takeNumber(int least, int most) {
            next();
            if (kind != NUMBER) {
                fail(1);
                return NONE;
            }
            if (number < least || number > most) {
                fail(3);
                return NONE;
            }
            return number;
        }
    }

    /** Levels and clubs as told, and where each club stands now. */
    private static final class Pyramid {
        int levels;
        final int[] divisions;
        final int[] size;
        final int[] down;
        final int[] need;
        int clubs;
        final long[] name;
        final int[] x;
        final int[] y;
        final int[] grade;
        final int[] level;
        final int[] division;

        Pyramid() {
            divisions = new int[MOST_LEVELS];
            size = new int[MOST_LEVELS];
            down = new int[MOST_LEVELS];
            need = new int[MOST_LEVELS];
            name = new long[MOST_CLUBS];
            x = new int[MOST_CLUBS];
            y = new int[MOST_CLUBS];
            grade = new int[MOST_CLUBS];
            level = new int[MOST_CLUBS];
            division = new int[MOST_CLUBS];
        }

        void copy(Pyramid other) {
            levels = other.levels;
            System.arraycopy(other.divisions, 0, divisions, 0, MOST_LEVELS);
            System.arraycopy(other.size, 0, size, 0, MOST_LEVELS);
            System.arraycopy(other.down, 0, down, 0, MOST_LEVELS);
            System.arraycopy(other.need, 0, need, 0, MOST_LEVELS);
            clubs = other.clubs;
            System.arraycopy(other.name, 0, name, 0, MOST_CLUBS);
            System.arraycopy(other.x, 0, x, 0, MOST_CLUBS);
            System.arraycopy(other.y, 0, y, 0, MOST_CLUBS);
            System.arraycopy(other.grade, 0, grade, 0, MOST_CLUBS);
            System.arraycopy(other.level, 0, level, 0, MOST_CLUBS);
            System.arraycopy(other.division, 0, division, 0, MOST_CLUBS);
        }

        boolean hasLevel(int wanted) {
            return wanted >= 0 && wanted < levels;
        }

        boolean hasDivision(int wanted, int part) {
            return hasLevel(wanted) && part >= 0 && part < divisions[wanted];
        }

        boolean isClub(int one) {
            return one >= 0 && one < clubs;
        }

        /** Whether it is a club of a division. */
        boolean plays(int one) {
            return isClub(one) && hasLevel(level[one]);
        }

        boolean standsIn(int one, int wanted, int part) {
            return level[one] == wanted && division[one] == part;
        }

        boolean together(int one, int other) {
            return plays(one) && standsIn(other, level[one], division[one]);
        }

        int find(long wanted) {
            for (int i = 0; i < clubs; i++) {
                if (name[i] == wanted) {
                    return i;
                }
            }
            return NONE;
        }

        int howMany(int wanted) {
            int count = 0;
            for (int i = 0; i < clubs; i++) {
                if (level[i] == wanted) {
                    count++;
                }
            }
            return count;
        }

        int howManyIn(int wanted, int part) {
            int count = 0;
            for (int i = 0; i < clubs; i++) {
                if (standsIn(i, wanted, part)) {
                    count++;
                }
            }
            return count;
        }

        /** Puts a level's clubs into the row, by number: how many. */
        int gather(int wanted, int[] row) {
            int count = 0;
            for (int i = 0; i < clubs; i++) {
                if (level[i] == wanted && count < row.length) {
                    row[count] = i;
                    count++;
                }
            }
            return count;
        }
    }

    /** Reads a pyramid's text into a draft, so that a fault leaves the pyramid as it is. */
    private static final class PyramidText {
        private final Tape tape;
        final Pyramid draft;

        PyramidText(Tape tape) {
            this.tape = tape;
            draft = new Pyramid();
        }

        boolean read() {
            draft.levels = 0;
            draft.clubs = 0;
            tape.startText();
            for (int lines = 0; lines <= Tape.ROOM; lines++) {
                tape.next();
                if (tape.kind == Tape.AT_END) {
                    return allFull() || tape.fail(5);
                }
                boolean stands;
                if (tape.isWord(Tape.LEVEL)) {
                    stands = readLevel(draft.levels);
                } else if (tape.isWord(Tape.CLUB)) {
                    stands = readClub(draft.clubs);
                } else {
                    stands = tape.fail(1);
                }
                if (!stands) {
                    return false;
                }
            }
            return tape.fail(1);
        }

        private boolean readLevel(int level) {
            if (level >= MOST_LEVELS) {
                return tape.fail(4);
            }
            int divisions = tape.takeNumber(1, MOST_DIVISIONS);
            if (divisions < 1 || !tape.takeWord(Tape.OF)) {
                return false;
            }
            int size = tape.takeNumber(2, Math.min(6, MOST_OF_LEVEL / divisions));
            if (size == NONE || !tape.takeWord(Tape.DOWN)) {
                return false;
            }
            int down = tape.takeNumber(0, 6);
            if (down == NONE || !tape.takeWord(Tape.NEED)) {
                return false;
            }
            int need = tape.takeNumber(0, 9);
            if (need == NONE || !tape.takeSign(';')) {
                return false;
            }
            draft.divisions[level] = divisions;
            draft.size[level] = size;
            draft.down[level] = down;
            draft.need[level] = need;
            draft.levels = level + 1;
            return true;
        }

        private boolean readClub(int club) {
            if (club >= MOST_CLUBS) {
                return tape.fail(4);
            }
            if (!tape.takeName()) {
                return false;
            }
            if (draft.find(tape.word) != NONE) {
                return tape.fail(2);
            }
            draft.name[club] = tape.word;
            draft.x[club] = tape.takeNumber(0, 99);
            if (draft.x[club] == NONE) {
                return false;
            }
            draft.y[club] = tape.takeNumber(0, 99);
            if (draft.y[club] == NONE || !tape.takeWord(Tape.GRADE)) {
                return false;
            }
            draft.grade[club] = tape.takeNumber(0, 9);
            if (draft.grade[club] == NONE || !readPlace(club)) {
                return false;
            }
            draft.clubs = club + 1;
            return true;
        }

        /** Where the club stands, and the line's end. */
        private boolean readPlace(int club) {
            draft.level[club] = NONE;
            draft.division[club] = NONE;
            tape.next();
            if (!tape.isWord(Tape.IN)) {
                return tape.isSign(';') || tape.fail(1);
            }
            int level = tape.takeNumber(0, draft.levels - 1);
            if (!draft.hasLevel(level)) {
                return false;
            }
            int division = tape.takeNumber(0, draft.divisions[level] - 1);
            if (division == NONE) {
                return false;
            }
            if (draft.howManyIn(level, division) >= draft.size[level]) {
                return tape.fail(3);
            }
            draft.level[club] = level;
            draft.division[club] = division;
            return tape.takeSign(';');
        }

        private boolean allFull() {
            for (int level = 0; level < draft.levels; level++) {
                if (draft.howMany(level) < draft.divisions[level] * draft.size[level]) {
                    return false;
                }
            }
            return true;
        }
    }

    /** Reads a day's text; its matches are told at once, the caller takes them back with a fault. */
    private static final class DayText {
        private final Tape tape;
        private final Pyramid pyramid;
        private final Season season;

        DayText(Tape tape, Pyramid pyramid, Season season) {
            this.tape = tape;
            this.pyramid = pyramid;
            this.season = season;
        }

        boolean read() {
            tape.startText();
            for (int lines = 0; lines <= Tape.ROOM; lines++) {
                tape.next();
                if (tape.kind == Tape.AT_END) {
                    return true;
                }
                if (!readMatch()) {
                    return false;
                }
            }
            return tape.fail(1);
        }

        private boolean readMatch() {
            int home = clubHere();
            if (home == NONE) {
                return false;
            }
            int goals = tape.takeNumber(0, 99);
            if (goals == NONE || !tape.takeSign('-')) {
                return false;
            }
            int against = tape.takeNumber(0, 99);
            if (against == NONE) {
                return false;
            }
            tape.next();
            int away = clubHere();
            if (away == NONE) {
                return false;
            }
            if (home == away || !pyramid.together(home, away) || season.isTold(home, away)) {
                return tape.fail(4);
            }
            if (!tape.takeSign(';')) {
                return false;
            }
            season.tell(home, away, goals, against);
            return true;
        }

        /** The club whose name was read last, NONE with a fault. */
        private int clubHere() {
            if (!tape.isName()) {
                tape.fail(1);
                return NONE;
            }
            int club = pyramid.find(tape.word);
            if (club == NONE) {
                tape.fail(2);
            }
            return club;
        }
    }

    /** What was told of the clubs for this season alone. */
    private static final class Season {
        // Five divisions of six clubs hold the most matches that thirty clubs can have.
        private static final int MOST_MATCHES = 150;

        int number;
        int count;
        final int[] home;
        final int[] away;
        // Of each home and away club 100 times the goals of the first and those of the second, or NONE.
        private final int[] score;
        final int[] resigned;
        final int[] refused;
        final int[] deducted;
        final int[] played;
        final int[] won;
        final int[] drawn;
        final int[] scored;
        final int[] conceded;

        Season() {
            home = new int[MOST_MATCHES];
            away = new int[MOST_MATCHES];
            score = new int[MOST_CLUBS * MOST_CLUBS];
            Arrays.fill(score, NONE);
            resigned = new int[MOST_CLUBS];
            refused = new int[MOST_CLUBS];
            deducted = new int[MOST_CLUBS];
            played = new int[MOST_CLUBS];
            won = new int[MOST_CLUBS];
            drawn = new int[MOST_CLUBS];
            scored = new int[MOST_CLUBS];
            conceded = new int[MOST_CLUBS];
        }

        void begin() {
            keepFirst(0);
            Arrays.fill(resigned, 0);
            Arrays.fill(refused, 0);
            Arrays.fill(deducted, 0);
        }

        void tell(int host, int guest, int goals, int against) {
            if (count < MOST_MATCHES) {
                home[count] = host;
                away[count] = guest;
                count++;
                score[host * MOST_CLUBS + guest] = goals * 100 + against;
                tally(host, goals, against, 1);
                tally(guest, against, goals, 1);
            }
        }

        void keepFirst(int kept) {
            for (int i = kept; i < count; i++) {
                int host = home[i];
                int guest = away[i];
                int goals = homeGoals(host, guest);
                int against = awayGoals(host, guest);
                tally(host, goals, against, -1);
                tally(guest, against, goals, -1);
                score[host * MOST_CLUBS + guest] = NONE;
            }
            count = Math.min(count, kept);
        }

        private void tally(int club, int goals, int against, int times) {
            played[club] += times;
            scored[club] += goals * times;
            conceded[club] += against * times;
            if (goals > against) {
                won[club] += times;
            } else if (goals == against) {
                drawn[club] += times;
            }
        }

        boolean isTold(int host, int guest) {
            return score[host * MOST_CLUBS + guest] != NONE;
        }

        int homeGoals(int host, int guest) {
            return isTold(host, guest) ? score[host * MOST_CLUBS + guest] / 100 : NONE;
        }

        int awayGoals(int host, int guest) {
            return isTold(host, guest) ? score[host * MOST_CLUBS + guest] % 100 : NONE;
        }

        int pointsOf(int club) {
            return 3 * won[club] + drawn[club] - deducted[club];
        }

        int goalsLessAgainst(int club) {
            return scored[club] - conceded[club];
        }

        /** Points that a club got in its matches with the other one. */
        int gotFrom(int club, int other) {
            int atHome = pointsFor(homeGoals(club, other), awayGoals(club, other));
            return atHome + pointsFor(awayGoals(other, club), homeGoals(other, club));
        }

        private static int pointsFor(int goals, int against) {
            if (goals == NONE || goals < against) {
                return 0;
            }
            return goals > against ? 3 : 1;
        }

        /** Matches of a division, each counted for both of its clubs. */
        int playedIn(Pyramid pyramid, int level, int division) {
            int sum = 0;
            for (int i = 0; i < pyramid.clubs; i++) {
                if (pyramid.standsIn(i, level, division)) {
                    sum += played[i];
                }
            }
            return sum;
        }
    }

    /** The latest deeds of this season, oldest first, that can be undone. */
    private static final class Deeds {
        static final int DAY = 0;
        static final int RESIGN = 1;
        static final int REFUSE = 2;
        static final int DEDUCT = 3;
        static final int GRADE = 4;
        private static final int MOST = 8;

        private final Pyramid pyramid;
        private final Season season;
        int count;
        private final int[] kind;
        private final int[] who;
        private final int[] number;

        Deeds(Pyramid pyramid, Season season) {
            this.pyramid = pyramid;
            this.season = season;
            kind = new int[MOST];
            who = new int[MOST];
            number = new int[MOST];
        }

        void keep(int what, int club, int value) {
            if (count >= MOST) {
                System.arraycopy(kind, 1, kind, 0, MOST - 1);
                System.arraycopy(who, 1, who, 0, MOST - 1);
                System.arraycopy(number, 1, number, 0, MOST - 1);
                count = MOST - 1;
            }
            kind[count] = what;
            who[count] = club;
            number[count] = value;
            count++;
        }

        boolean takeBack() {
            if (count < 1) {
                return false;
            }
            count--;
            if (kind[count] == DAY) {
                season.keepFirst(number[count]);
            } else if (pyramid.isClub(who[count])) {
                takeBackOf(who[count], kind[count], number[count]);
            }
            return true;
        }

        private void takeBackOf(int club, int what, int value) {
            switch (what) {
                case RESIGN:
                    season.resigned[club] = 0;
                    break;
                case REFUSE:
                    season.refused[club] = 0;
                    break;
                case DEDUCT:
                    season.deducted[club] -= value;
                    break;
                default:
                    pyramid.grade[club] = value;
                    break;
            }
        }
    }

    /** The order of one level, made anew by arrange, and the table shown latest. */
    private static final class Table {
        // A name of 7, points of 4, matches of 2, two blanks, a semicolon, six times.
        private static final int MOST_SHOWN = 96;

        private final Pyramid pyramid;
        private final Season season;
        int count;
        final int[] row;
        final int[] rank;
        private final int[] points;
        int shownCount;
        final int[] shown;

        Table(Pyramid pyramid, Season season) {
            this.pyramid = pyramid;
            this.season = season;
            row = new int[MOST_OF_LEVEL];
            rank = new int[MOST_CLUBS];
            points = new int[MOST_CLUBS];
            shown = new int[MOST_SHOWN];
        }

        void arrange(int level) {
            count = pyramid.gather(level, row);
            for (int i = 0; i < count; i++) {
                points[row[i]] = season.pointsOf(row[i]);
            }
            for (int i = 0; i < count; i++) {
                rank[row[i]] = rankNow(row[i]);
            }
            for (int i = 1; i < count; i++) {
                sink(i);
            }
        }

        private int rankNow(int club) {
            int ahead = 0;
            for (int i = 0; i < count; i++) {
                if (pyramid.division[row[i]] == pyramid.division[club] && outranks(row[i], club)) {
                    ahead++;
                }
            }
            return ahead + 1;
        }

        private boolean outranks(int one, int other) {
            int by = points[one] - points[other];
            if (by == 0) {
                by = season.goalsLessAgainst(one) - season.goalsLessAgainst(other);
            }
            if (by == 0) {
                by = season.scored[one] - season.scored[other];
            }
            return by != 0 ? by > 0 : one < other;
        }

        /** Brings the i-th to its place among those ahead of it, which are in order. */
        private void sink(int i) {
            int club = row[i];
            int to = i;
            while (to > 0 && isAhead(club, row[to - 1])) {
                row[to] = row[to - 1];
                to--;
            }
            row[to] = club;
        }

        private boolean isAhead(int one, int other) {
            if (rank[one] != rank[other]) {
                return rank[one] < rank[other];
            }
            // Averages of so small numbers are like as floats just where they are like as fractions.
            int by = averagePoints(one) * Math.max(season.played[other], 1)
                    - averagePoints(other) * Math.max(season.played[one], 1);
            return by != 0 ? by > 0 : one < other;
        }

        /** The points that make its average: without a match none, whatever is deducted. */
        private int averagePoints(int club) {
            return season.played[club] > 0 ? points[club] : 0;
        }

        int placeOf(int club) {
            for (int i = 0; i < count; i++) {
                if (row[i] == club) {
                    return i;
                }
            }
            return NONE;
        }

        int atRank(int division, int wanted) {
            for (int i = 0; i < count; i++) {
                if (pyramid.division[row[i]] == division && rank[row[i]] == wanted) {
                    return row[i];
                }
            }
            return NONE;
        }

        /** How many others of its division can still have as many points as the club has now. */
        int canReach(int club) {
            int matchesOfAll = 2 * (pyramid.size[pyramid.level[club]] - 1);
            int reaching = 0;
            for (int i = 0; i < pyramid.clubs; i++) {
                if (i != club && pyramid.together(club, i)) {
                    int most = season.pointsOf(i) + 3 * (matchesOfAll - season.played[i]);
                    if (most >= season.pointsOf(club)) {
                        reaching++;
                    }
                }
            }
            return reaching;
        }

        /** Shows a division of the level that was arranged. */
        void write(int division) {
            shownCount = 0;
            for (int i = 0; i < count; i++) {
                if (pyramid.division[row[i]] == division) {
                    writeClub(row[i]);
                }
            }
        }

        private void writeClub(int club) {
            for (int shift = 48; shift >= 0; shift -= 8) {
                int letter = (int) (pyramid.name[club] >>> shift & 255);
                if (letter != 0) {
                    writeSign(letter);
                }
            }
            writeSign(' ');
            writeNumber(points[club]);
            writeSign(' ');
            writeNumber(season.played[club]);
            writeSign(';');
        }

        private void writeNumber(int value) {
            if (value < 0) {
                writeSign('-');
            }
            int size = Math.abs(value);
            if (size >= 100) {
                writeSign('0' + size / 100);
            }
            if (size >= 10) {
                writeSign('0' + size / 10 % 10);
            }
            writeSign('0' + size % 10);
        }

        private void writeSign(int one) {
            if (shownCount < MOST_SHOWN) {
                shown[shownCount] = one;
                shownCount++;
            }
        }
    }

    /** Miles among clubs, and of one level's clubs to each of its divisions. */
    private static final class Travel {
        private final Pyramid pyramid;
        private final int[] miles;
        private int count;
        private final int[] row;
        // Of the i-th club of the row the miles to all of each division, itself at no miles.
        private final int[] far;
        int saved;
        int swapLess;
        int swapMore;

        Travel(Pyramid pyramid) {
            this.pyramid = pyramid;
            miles = new int[MOST_CLUBS * MOST_CLUBS];
            row = new int[MOST_OF_LEVEL];
            far = new int[MOST_OF_LEVEL * MOST_DIVISIONS];
        }

        void measure() {
            for (int one = 0; one < pyramid.clubs; one++) {
                for (int other = 0; other <= one; other++) {
                    int dx = pyramid.x[one] - pyramid.x[other];
                    int dy = pyramid.y[one] - pyramid.y[other];
                    int root = rootOf(dx * dx + dy * dy);
                    miles[one * MOST_CLUBS + other] = root;
                    miles[other * MOST_CLUBS + one] = root;
                }
            }
        }

        /** The greatest whole number below 256 whose square isn't above. */
        private static int rootOf(int square) {
            int root = 0;
            for (int bit = 128; bit > 0; bit >>= 1) {
                int next = root + bit;
                if (next * next <= square) {
                    root = next;
                }
            }
            return root;
        }

        int between(int one, int other) {
            return miles[one * MOST_CLUBS + other];
        }

        int toDivision(int club, int level, int division) {
            int sum = 0;
            for (int i = 0; i < pyramid.clubs; i++) {
                if (pyramid.standsIn(i, level, division)) {
                    sum += between(club, i);
                }
            }
            return sum;
        }

        /** Miles of a division, each two clubs counted twice. */
        int withinTwice(int level, int division) {
            int sum = 0;
            for (int i = 0; i < pyramid.clubs; i++) {
                if (pyramid.standsIn(i, level, division)) {
                    sum += toDivision(i, level, division);
                }
            }
            return sum;
        }

        int ofLevel(int level) {
            int sum = 0;
            for (int division = 0; division < pyramid.divisions[level]; division++) {
                sum += withinTwice(level, division);
            }
            return sum / 2;
        }

        private void survey(int level) {
            count = pyramid.gather(level, row);
            for (int i = 0; i < count; i++) {
                for (int division = 0; division < MOST_DIVISIONS; division++) {
                    far[i * MOST_DIVISIONS + division] = toDivision(row[i], level, division);
                }
            }
        }

        private int farFrom(int i, int division) {
            return far[i * MOST_DIVISIONS + division];
        }

        private int divisionOf(int i) {
            return pyramid.division[row[i]];
        }

        boolean findSwap(int level) {
            survey(level);
            saved = 0;
            for (int i = 0; i < count; i++) {
                for (int k = i + 1; k < count; k++) {
                    int saving = divisionOf(i) != divisionOf(k) ? savingOf(i, k) : 0;
                    if (saving > saved) {
                        saved = saving;
                        swapLess = row[i];
                        swapMore = row[k];
                    }
                }
            }
            return saved > 0;
        }

        private int savingOf(int i, int k) {
            int now = farFrom(i, divisionOf(i)) + farFrom(k, divisionOf(k));
            int then = farFrom(i, divisionOf(k)) + farFrom(k, divisionOf(i));
            // Each was counted among the other's new neighbours, yet is not there when they have swapped.
            return now - then + 2 * between(row[i], row[k]);
        }

        int midmost(int level) {
            survey(level);
            int best = NONE;
            int fewest = Integer.MAX_VALUE;
            for (int i = 0; i < count; i++) {
                int sum = 0;
                for (int division = 0; division < MOST_DIVISIONS; division++) {
                    sum += farFrom(i, division);
                }
                if (sum < fewest) {
                    fewest = sum;
                    best = row[i];
                }
            }
            return best;
        }

        int closest(int club) {
            int best = NONE;
            int fewest = Integer.MAX_VALUE;
            for (int i = 0; i < pyramid.clubs; i++) {
                if (i != club && pyramid.together(club, i) && between(club, i) < fewest) {
                    fewest = between(club, i);
                    best = i;
                }
            }
            return best;
        }

        int strangersOf(int level) {
            survey(level);
            int bits = 0;
            for (int i = 0; i < count; i++) {
                for (int division = 0; division < pyramid.divisions[level]; division++) {
                    if (farFrom(i, division) < farFrom(i, divisionOf(i))) {
                        bits |= 1 << row[i];
                    }
                }
            }
            return bits;
        }
    }

    /** Parts a level into divisions with the fewest miles; what was found is kept while its clubs stay. */
    private static final class Parting {
        // Of twelve clubs there are the most sets of six.
        private static final int MOST_SETS = 924;

        private final Pyramid pyramid;
        private final Travel travel;
        private final int[] known;
        final int[] fewest;
        final int[] anew;
        private int count;
        private int size;
        private int divisions;
        private final int[] row;
        private final int[] picked;
        // All sets of as many clubs of the row as a division has, as bits, in the order of their clubs.
        private int setCount;
        private final int[] sets;
        private final int[] setMiles;
        // Where the sets begin whose least club is the i-th of the row.
        private final int[] firstWith;
        private final int[] chosen;
        private final int[] best;
        private int bestMiles;

        Parting(Pyramid pyramid, Travel travel) {
            this.pyramid = pyramid;
            this.travel = travel;
            known = new int[MOST_LEVELS];
            fewest = new int[MOST_LEVELS];
            anew = new int[MOST_CLUBS];
            row = new int[MOST_OF_LEVEL];
            picked = new int[MOST_OF_LEVEL];
            sets = new int[MOST_SETS];
            setMiles = new int[1 << MOST_OF_LEVEL];
            firstWith = new int[MOST_OF_LEVEL + 1];
            chosen = new int[MOST_DIVISIONS];
            best = new int[MOST_DIVISIONS];
        }

        void forgetAll() {
            Arrays.fill(known, 0);
        }

        /** Forgets what was found of the levels that clubs leave for their goals or come to. */
        void forgetChanged(int[] goal) {
            for (int i = 0; i < pyramid.clubs && i < goal.length; i++) {
                if (goal[i] != pyramid.level[i]) {
                    forgetLevel(goal[i]);
                    forgetLevel(pyramid.level[i]);
                }
            }
        }

        private void forgetLevel(int level) {
            if (pyramid.hasLevel(level)) {
                known[level] = 0;
            }
        }

        void settle() {
            for (int level = 0; level < pyramid.levels; level++) {
                partAnew(level);
            }
            for (int i = 0; i < pyramid.clubs; i++) {
                pyramid.division[i] = pyramid.plays(i) ? anew[i] : NONE;
            }
        }

        void partAnew(int level) {
            if (known[level] != 0) {
                return;
            }
            count = pyramid.gather(level, row);
            size = pyramid.size[level];
            divisions = pyramid.divisions[level];
            setCount = 0;
            listSets(0, 0, 0, 0);
            bestMiles = Integer.MAX_VALUE;
            choose(0, (1 << count) - 1, 0);
            for (int i = 0; i < count; i++) {
                anew[row[i]] = bestDivisionOf(i);
            }
            fewest[level] = bestMiles;
            known[level] = 1;
        }

        private int bestDivisionOf(int i) {
            for (int division = 0; division < divisions; division++) {
                if ((best[division] >> i & 1) != 0) {
                    return division;
                }
            }
            return 0;
        }

        /** Lists the sets that go on from those picked: a set has no more clubs than a division. */
        private void listSets(int slot, int from, int set, int miles) {
            if (slot >= size) {
                if (setCount < MOST_SETS) {
                    sets[setCount] = set;
                    setCount++;
                    setMiles[set] = miles;
                }
                return;
            }
            // So many clubs must be left behind that the set can still be filled.
            for (int i = from; i <= count - size + slot; i++) {
                picked[slot] = row[i];
                listSets(slot + 1, i + 1, set | 1 << i, miles + milesTo(slot));
                if (slot == 0) {
                    firstWith[i + 1] = setCount;
                }
            }
        }

        /** Miles of the club picked last to those picked ahead of it. */
        private int milesTo(int slot) {
            int sum = 0;
            for (int i = 0; i < slot; i++) {
                sum += travel.between(picked[i], picked[slot]);
            }
            return sum;
        }

        /** Chooses sets for the divisions from this one on; only a better way takes a former one's place. */
        private void choose(int division, int left, int miles) {
            if (division >= divisions - 1) {
                if (miles + setMiles[left] < bestMiles) {
                    chosen[division] = left;
                    System.arraycopy(chosen, 0, best, 0, divisions);
                    bestMiles = miles + setMiles[left];
                }
                return;
            }
            int least = Integer.bitCount((left & -left) - 1);
            if (least >= count) {
                return;
            }
            for (int k = firstWith[least]; k < firstWith[least + 1] && k < setCount; k++) {
                int set = sets[k];
                if ((set & ~left) == 0 && miles + setMiles[set] < bestMiles) {
                    chosen[division] = set;
                    choose(division + 1, left & ~set, miles + setMiles[set]);
                }
            }
        }
    }

    /** The end of the season as it stands now: who would go where. */
    private static final class Ending {
        static final int UP = 0;
        static final int DOWN = 1;
        static final int SPARED = 2;
        static final int COME = 3;
        private static final int KINDS = 4;

        private final Pyramid pyramid;
        private final Season season;
        private final Table table;
        // Of each level but the foot how many go up to it and down from it.
        private final int[] rising;
        private final int[] falling;
        private final int[] counts;
        private final int[] movers;
        final int[] goal;

        Ending(Pyramid pyramid, Season season, Table table) {
            this.pyramid = pyramid;
            this.season = season;
            this.table = table;
            rising = new int[MOST_LEVELS];
            falling = new int[MOST_LEVELS];
            counts = new int[MOST_LEVELS * KINDS];
            movers = new int[MOST_LEVELS * KINDS * MOST_CLUBS];
            goal = new int[MOST_CLUBS];
        }

        int wantingOf(int level) {
            int count = 0;
            for (int i = 0; i < pyramid.clubs; i++) {
                if (season.resigned[i] != 0 && pyramid.plays(i) && pyramid.level[i] <= level) {
                    count++;
                }
            }
            return count;
        }

        private boolean mayRise(int club) {
            int level = pyramid.level[club];
            return level > 0 && season.resigned[club] == 0 && season.refused[club] == 0
                    && pyramid.grade[club] >= pyramid.need[level - 1];
        }

        int mayRiseFrom(int level) {
            int count = 0;
            for (int i = 0; i < pyramid.clubs; i++) {
                if (pyramid.level[i] == level && mayRise(i)) {
                    count++;
                }
            }
            return count;
        }

        int countOf(int level, int what) {
            return counts[level * KINDS + what];
        }

        int mover(int level, int what, int i) {
            return movers[(level * KINDS + what) * MOST_CLUBS + i];
        }

        private void add(int level, int what, int club, int aim) {
            int list = level * KINDS + what;
            if (counts[list] < MOST_CLUBS) {
                movers[list * MOST_CLUBS + counts[list]] = club;
                counts[list]++;
                goal[club] = aim;
            }
        }

        int risenInAll() {
            int sum = 0;
            for (int level = 0; level < pyramid.levels; level++) {
                sum += countOf(level, UP);
            }
            return sum;
        }

        /** Whether the end can be; if so, goal and movers tell it. */
        boolean weigh() {
            Arrays.fill(counts, 0);
            for (int i = 0; i < pyramid.clubs; i++) {
                goal[i] = season.resigned[i] != 0 ? GONE : pyramid.level[i];
            }
            for (int level = 0; level < pyramid.levels - 1; level++) {
                setNumbers(level);
            }
            for (int level = 0; level < pyramid.levels; level++) {
                table.arrange(level);
                if (!sendUp(level) || !sendDown(level)) {
                    return false;
                }
            }
            return pyramid.levels > 0 && bringIn(pyramid.levels - 1);
        }

        private void setNumbers(int level) {
            int wanting = wantingOf(level);
            int rule = Math.max(pyramid.down[level], wanting);
            rising[level] = Math.max(Math.min(rule, mayRiseFrom(level + 1)), wanting);
            falling[level] = rising[level] - wanting;
        }

        private boolean sendUp(int level) {
            if (level < 1) {
                return true;
            }
            sendUpThose(level, true);
            sendUpThose(level, false);
            return countOf(level, UP) == rising[level - 1];
        }

        private void sendUpThose(int level, boolean may) {
            for (int i = 0; i < table.count && countOf(level, UP) < rising[level - 1]; i++) {
                int club = table.row[i];
                if (season.resigned[club] == 0 && mayRise(club) == may) {
                    add(level, UP, club, level - 1);
                }
            }
        }

        private boolean sendDown(int level) {
            if (level >= pyramid.levels - 1) {
                return true;
            }
            int staying = 0;
            for (int i = 0; i < table.count; i++) {
                if (goal[table.row[i]] == level) {
                    staying++;
                }
            }
            int place = 0;
            for (int i = 0; i < table.count; i++) {
                int club = table.row[i];
                if (goal[club] == level) {
                    if (place >= staying - falling[level]) {
                        add(level, DOWN, club, level + 1);
                    } else if (place >= staying - pyramid.down[level]) {
                        add(level, SPARED, club, level);
                    }
                    place++;
                }
            }
            return countOf(level, DOWN) == falling[level];
        }

        private boolean bringIn(int foot) {
            int wanting = wantingOf(foot);
            for (int i = 0; i < pyramid.clubs && countOf(foot, COME) < wanting; i++) {
                if (pyramid.level[i] == NONE) {
                    add(foot, COME, i, foot);
                }
            }
            return countOf(foot, COME) == wanting;
        }

        boolean risesWith(int club, int grade) {
            int old = pyramid.grade[club];
            pyramid.grade[club] = grade;
            boolean rises = weigh() && goal[club] == pyramid.level[club] - 1;
            pyramid.grade[club] = old;
            return rises;
        }

        void moveClubs() {
            for (int i = 0; i < pyramid.clubs; i++) {
                pyramid.level[i] = goal[i];
            }
        }
    }

    /** A number's bits as Java tells them, by arithmetic alone; none of these numbers is -0.0. */
    private static final class Bits {
        static long ofDouble(double value) {
            if (value == 0.0) {
                return 0L;
            }
            double size = value < 0.0 ? -value : value;
            int power = 0;
            while (size >= 2.0 && power < 1023) {
                size = size / 2.0;
                power++;
            }
            while (size < 1.0 && power > -1022) {
                size = size * 2.0;
                power--;
            }
            long bits = (long) (power + 1023) << 52 | (long) ((size - 1.0) * 4503599627370496.0);
            return value < 0.0 ? bits | Long.MIN_VALUE : bits;
        }

        static int ofFloat(float value) {
            if (value == 0.0f) {
                return 0;
            }
            long bits = ofDouble((double) value);
            int sign = bits < 0L ? Integer.MIN_VALUE : 0;
            int power = (int) (bits >>> 52 & 2047L) - 1023 + 127;
            return sign | power << 23 | (int) (bits >>> 29 & 8388607L);
        }
    }
}
