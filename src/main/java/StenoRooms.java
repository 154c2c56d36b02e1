import java.util.Arrays;

/** Stenographers shared by courtrooms; ../shared/DOC.md says what each public method does. */
public final class StenoRooms {
    public static final int NONE = -1;

    private static final int SAVE_SLOTS = 2;
    private static final int STATES = 14;

    // What hinders a call; the numbers stand for the exceptions that refuse() throws.
    private static final int NO_FAULT = 0;
    private static final int NO_SUCH = 1;
    private static final int OUT_OF_RANGE = 2;
    private static final int NOT_NOW = 3;

    private final Text text;
    private final Calendar present;
    // What would be, scripts and simulations are all tried out in this one, so that no call makes rows.
    private final Calendar copy;
    private final Calendar[] saved;
    private final boolean[] isSaved;
    // The oldest one stands first; those from rememberedCount on are spare.
    private final Calendar[] remembered;
    private int rememberedCount;

    public StenoRooms() {
        text = new Text();
        present = new Calendar();
        copy = new Calendar();
        isSaved = new boolean[SAVE_SLOTS];
        saved = new Calendar[SAVE_SLOTS];
        for (int i = 0; i < SAVE_SLOTS; i++) {
            saved[i] = new Calendar();
        }
        remembered = new Calendar[STATES];
        for (int i = 0; i < STATES; i++) {
            remembered[i] = new Calendar();
        }
        rememberedCount = 0;
    }

    // ---- text

    public int append(int c) throws IllegalArgumentException, IllegalStateException {
        if (c < 0 || c > 255) {
            throw new IllegalArgumentException("a character code is 0 to 255");
        }
        if (text.length >= Text.LIMIT) {
            throw new IllegalStateException("the text is full");
        }
        return text.addSign(c);
    }

    public int clearText() {
        int previous = text.length;
        text.length = 0;
        return previous;
    }

    public int errorPosition() {
        return text.findError();
    }

    public int load() throws IllegalStateException {
        if (text.findError() != NONE) {
            throw new IllegalStateException("the text is not a calendar");
        }
        present.makeNew();
        rememberedCount = 0;
        for (int i = 0; i < SAVE_SLOTS; i++) {
            isSaved[i] = false;
        }
        int leftOut = 0;
        text.begin();
        for (int i = 0; i < Text.LIMIT && text.readCommand(); i++) {
            if (!Commands.doTextCommand(present, text)) {
                leftOut++;
            }
        }
        return leftOut;
    }

    // ---- what there is

    public int about(int what) throws IllegalArgumentException {
        switch (what) {
            case 0: return present.staff;
            case 1: return present.sessionCount;
            case 2: return present.today;
            case 3: return present.sessionsOf(NONE);
            case 4: return present.desks.count;
            case 5: return present.desks.allPages();
            case 6: return present.lost;
            case 7: return present.allPay();
            case 8: return present.fines;
            case 9: return present.done;
            case 10: return present.typed;
            default: throw new IllegalArgumentException("what is 0 to 10");
        }
    }

    public int stenographer(int p, int what) throws IndexOutOfBoundsException, IllegalArgumentException {
        refuse(present.staffFault(p));
        switch (what) {
            case 0: return present.speed[p];
            case 1: return present.leaveEnd[p];
            case 2: return present.sessionsOf(p);
            case 3: return present.desks.countOf(p);
            case 4: return present.desks.pagesOf(p);
            case 5: return present.slotsOn(p, present.today);
            case 6: return present.pay[p];
            default: throw new IllegalArgumentException("what is 0 to 6");
        }
    }

    public int sessionOf(int k, int what) throws IndexOutOfBoundsException, IllegalArgumentException {
        refuse(present.numberFault(k));
        Session s = present.sessions[k];
        switch (what) {
            case 0: return s.room;
            case 1: return s.day;
            case 2: return s.first;
            case 3: return s.slots;
            case 4: return s.talk;
            case 5: return s.holder;
            default: throw new IllegalArgumentException("what is 0 to 5");
        }
    }

    public int transcript(int p, int i, int what) throws IndexOutOfBoundsException, IllegalArgumentException {
        refuse(present.staffFault(p));
        int place = present.desks.placeOf(p, i);
        if (place == NONE) {
            throw new IndexOutOfBoundsException("there is no such transcript");
        }
        switch (what) {
            case 0: return present.desks.pages[place];
            case 1: return present.desks.due[place];
            default: throw new IllegalArgumentException("what is 0 or 1");
        }
    }

    public int setting(int what) throws IllegalArgumentException {
        if (what < 0 || what >= Calendar.SETTINGS) {
            throw new IllegalArgumentException("what is 0 to 3");
        }
        return present.settings[what];
    }

    // ---- actions

    public int hire(int speed) throws IllegalArgumentException, IllegalStateException {
        refuse(present.hireFault(speed));
        remember();
        return present.addStenographer(speed);
    }

    public int session(int room, int day, int first, int slots, int talk)
            throws IndexOutOfBoundsException, IllegalArgumentException, IllegalStateException {
        refuse(present.sessionFault(room, day, first, slots, talk));
        remember();
        return present.addSession(room, day, first, slots, talk);
    }

    public int cancel(int k) throws IndexOutOfBoundsException {
        refuse(present.numberFault(k));
        remember();
        present.removeSession(k);
        return present.sessionCount;
    }

    public int give(int k, int p) throws IndexOutOfBoundsException, IllegalStateException {
        refuse(present.giveFault(k, p));
        remember();
        int previous = present.sessions[k].holder;
        present.sessions[k].holder = p;
        return previous;
    }

    public int giveAll() {
        remember();
        return present.giveToBest();
    }

    public int extend(int k, int n) throws IndexOutOfBoundsException, IllegalArgumentException {
        refuse(present.extendFault(k, n));
        remember();
        return present.lengthen(k, n);
    }

    public int leave(int p, int days) throws IndexOutOfBoundsException, IllegalArgumentException {
        refuse(present.leaveFault(p, days));
        remember();
        return present.sendOnLeave(p, days);
    }

    public int run(int n) throws IllegalArgumentException {
        refuse(present.runFault(n));
        remember();
        return present.finesOfDays(n);
    }

    public int set(int what, int v) throws IllegalArgumentException {
        refuse(present.setFault(what, v));
        remember();
        int previous = present.settings[what];
        present.settings[what] = v;
        return previous;
    }

    public int undo() throws IllegalStateException {
        if (rememberedCount <= 0) {
            throw new IllegalStateException("no state is remembered");
        }
        rememberedCount--;
        present.copyFrom(remembered[rememberedCount]);
        return rememberedCount;
    }

    // ---- what would be

    public int whyNot(int k, int p) throws IndexOutOfBoundsException {
        refuse(present.numberFault(k));
        refuse(present.staffFault(p));
        return present.sessions[k].holder == p ? 0 : present.reasonAgainst(k, p);
    }

    public int whom(int k) throws IndexOutOfBoundsException {
        refuse(present.numberFault(k));
        return present.bestFor(k);
    }

    public int coming(int n, int what) throws IllegalArgumentException {
        if (n < 1 || n > 60 || what < 0 || what > 3) {
            throw new IllegalArgumentException("n is 1 to 60, and what is 0 to 3");
        }
        copy.copyFrom(present);
        int finesThen = copy.finesOfDays(n);
        switch (what) {
            case 0: return copy.lost - present.lost;
            case 1: return copy.allPay() - present.allPay();
            case 2: return finesThen;
            default: return copy.desks.count;
        }
    }

    public int emptyIn(int p) throws IndexOutOfBoundsException {
        refuse(present.staffFault(p));
        copy.copyFrom(present);
        for (int days = 0; days <= 60; days++) {
            if (copy.desks.countOf(p) == 0) {
                return days;
            }
            copy.letDayGoBy();
        }
        return NONE;
    }

    public int ifHired(int speed, int n) throws IllegalArgumentException, IllegalStateException {
        if (n < 1 || n > 30) {
            throw new IllegalArgumentException("n is 1 to 30");
        }
        refuse(present.hireFault(speed));
        copy.copyFrom(present);
        copy.giveToBest();
        int without = copy.finesOfDays(n);
        copy.copyFrom(present);
        copy.addStenographer(speed);
        copy.giveToBest();
        return without - copy.finesOfDays(n);
    }

    public int freeRoom(int day, int first, int slots) throws IllegalArgumentException {
        if (!present.isPlace(day, first, slots)) {
            throw new IllegalArgumentException("there are no such slots");
        }
        for (int room = 0; room < Calendar.ROOMS; room++) {
            if (!present.isTaken(room, day, first, slots)) {
                return room;
            }
        }
        return NONE;
    }

    // ---- scripts, simulations

    public int runScript(int n, long script) throws IllegalArgumentException {
        if (n < 1 || n > 3) {
            throw new IllegalArgumentException("n is 1 to 3");
        }
        long unit = 1;
        for (int i = 0; i < n; i++) {
            unit *= Commands.GROUP;
        }
        if (script < 0 || script >= unit) {
            throw new IllegalArgumentException("the script has at most 5 * n digits");
        }
        copy.copyFrom(present);
        long rest = script;
        for (int i = 0; i < n; i++) {
            unit /= Commands.GROUP;
            // n divisions by GROUP of what was multiplied n times leave 1 at least.
            int group = unit == 0 ? 0 : (int) (rest / unit % Commands.GROUP);
            if (!Commands.doScriptCommand(copy, group)) {
                return i;
            }
        }
        return NONE;
    }

    public int simulate(long seed, int m) throws IllegalArgumentException {
        if (m < 1 || m > 60) {
            throw new IllegalArgumentException("m is 1 to 60");
        }
        copy.copyFrom(present);
        long x = seed;
        for (int i = 0; i < m; i++) {
            x = x * 6364136223846793005L + 1442695040888963407L;
            Commands.doTurn(copy, (int) (x >>> 33));
        }
        return 1000 * (copy.lost - present.lost) + copy.desks.count;
    }

    // ---- save slots

    public int save(int slot) throws IndexOutOfBoundsException {
        if (slot < 0 || slot >= SAVE_SLOTS) {
            throw new IndexOutOfBoundsException("a save slot is 0 or 1");
        }
        saved[slot].copyFrom(present);
        isSaved[slot] = true;
        return present.today;
    }

    public int restore(int slot) throws IndexOutOfBoundsException, IllegalStateException {
        if (slot < 0 || slot >= SAVE_SLOTS) {
            throw new IndexOutOfBoundsException("a save slot is 0 or 1");
        }
        if (!isSaved[slot]) {
            throw new IllegalStateException("nothing has been saved in it since the last load");
        }
        present.copyFrom(saved[slot]);
        rememberedCount = 0;
        return present.today;
    }

    // ---- of its own

    private static void refuse(int fault) {
        switch (fault) {
            case NO_SUCH: throw new IndexOutOfBoundsException("there is no such stenographer, session or room");
            case OUT_OF_RANGE: throw new IllegalArgumentException("an argument is out of its range");
            case NOT_NOW: throw new IllegalStateException("the present state does not allow it");
            default: break;
        }
    }

    private void remember() {
        if (rememberedCount == STATES) {
            forgetOldest();
        }
        remembered[rememberedCount].copyFrom(present);
        rememberedCount++;
    }

    private void forgetOldest() {
        Calendar oldest = remembered[0];
        for (int i = 1; i < STATES; i++) {
            remembered[i - 1] = remembered[i];
        }
        remembered[STATES - 1] = oldest;
        rememberedCount--;
    }

    private static final class Session {
        int room;
        int day;
        int first;
        int slots;
        int talk;
        int holder;

        void copyFrom(Session other) {
            room = other.room;
            day = other.day;
            first = other.first;
            slots = other.slots;
            talk = other.talk;
            holder = other.holder;
        }

        /** Its slots as bits. */
        int bits() {
            return ((1 << slots) - 1) << first;
        }

        /** Less for a session that stands ahead of another one. */
        int order() {
            return (day * (Calendar.SLOTS + 1) + first) * Calendar.ROOMS + room;
        }
    }

    /** All transcripts, as they came; so those of one stenographer stand as on the desk. */
    private static final class Desks {
        // Each transcript was a session, and no object sees as many of them in 512 calls and a simulation.
        static final int LIMIT = 640;

        // The rows begin short and grow: few runs have many transcripts, and each object has 18 calendars.
        int[] owner = new int[16];
        int[] pages = new int[16];
        int[] due = new int[16];
        int count = 0;

        void copyFrom(Desks other) {
            makeRoomFor(other.count);
            System.arraycopy(other.owner, 0, owner, 0, other.count);
            System.arraycopy(other.pages, 0, pages, 0, other.count);
            System.arraycopy(other.due, 0, due, 0, other.count);
            count = other.count;
        }

        /** Puts one where makeRoomFor has made room. */
        void put(int p, int pagesOfIt, int dueDay) {
            if (count >= owner.length) {
                return;
            }
            owner[count] = p;
            pages[count] = pagesOfIt;
            due[count] = dueDay;
            count++;
        }

        void takeAway(int place) {
            for (int i = place + 1; i < count; i++) {
                owner[i - 1] = owner[i];
                pages[i - 1] = pages[i];
                due[i - 1] = due[i];
            }
            count--;
        }

        /** Makes the rows long enough for so many, as far as the limit goes. */
        void makeRoomFor(int wanted) {
            int least = Math.min(wanted, LIMIT);
            if (least <= owner.length) {
                return;
            }
            int length = Math.max(least, Math.min(2 * owner.length, LIMIT));
            owner = Arrays.copyOf(owner, length);
            pages = Arrays.copyOf(pages, length);
            due = Arrays.copyOf(due, length);
        }

        int countOf(int p) {
            int n = 0;
            for (int i = 0; i < count; i++) {
                if (owner[i] == p) {
                    n++;
                }
            }
            return n;
        }

        int pagesOf(int p) {
            int sum = 0;
            for (int i = 0; i < count; i++) {
                if (owner[i] == p) {
                    sum += pages[i];
                }
            }
            return sum;
        }

        int allPages() {
            int sum = 0;
            for (int i = 0; i < count; i++) {
                sum += pages[i];
            }
            return sum;
        }

        /** Where the transcript number i on the desk of p stands; NONE if there is none. */
        int placeOf(int p, int number) {
            int passed = 0;
            for (int i = 0; i < count; i++) {
                if (owner[i] == p) {
                    if (passed == number) {
                        return i;
                    }
                    passed++;
                }
            }
            return NONE;
        }

        /** Where the transcript stands that p types next; NONE if the desk is empty. */
        int nextOf(int p) {
            int next = NONE;
            for (int i = 0; i < count; i++) {
                if (owner[i] == p && (next == NONE || due[i] < due[next])) {
                    next = i;
                }
            }
            return next;
        }

        int dueUpTo(int day) {
            int n = 0;
            for (int i = 0; i < count; i++) {
                if (due[i] <= day) {
                    n++;
                }
            }
            return n;
        }
    }

    /** The state: everything but the text, the save slots and the remembered states. */
    private static final class Calendar {
        static final int STAFF_LIMIT = 6;
        static final int SESSION_LIMIT = 16;
        static final int ROOMS = 5;
        static final int SLOTS = 16;
        static final int LAST_DAY = 999;
        static final int SETTINGS = 4;
        static final int SLOTS_IN_A_ROW = 0;
        static final int SLOTS_A_DAY = 1;
        static final int DAYS_FOR_TRANSCRIPT = 2;
        static final int FINE = 3;

        int today;
        int staff;
        final int[] speed;
        final int[] leaveEnd;
        final int[] pay;
        final int[] settings;
        int sessionCount;
        // In their order; those from sessionCount on are spare.
        final Session[] sessions;
        final Desks desks;
        int lost;
        int fines;
        int done;
        int typed;

        Calendar() {
            speed = new int[STAFF_LIMIT];
            leaveEnd = new int[STAFF_LIMIT];
            pay = new int[STAFF_LIMIT];
            settings = new int[SETTINGS];
            sessions = new Session[SESSION_LIMIT];
            for (int i = 0; i < SESSION_LIMIT; i++) {
                sessions[i] = new Session();
            }
            desks = new Desks();
            makeNew();
        }

        void makeNew() {
            today = 0;
            staff = 0;
            sessionCount = 0;
            desks.count = 0;
            lost = 0;
            fines = 0;
            done = 0;
            typed = 0;
            settings[SLOTS_IN_A_ROW] = 6;
            settings[SLOTS_A_DAY] = 10;
            settings[DAYS_FOR_TRANSCRIPT] = 2;
            settings[FINE] = 5;
        }

        void copyFrom(Calendar other) {
            today = other.today;
            staff = other.staff;
            for (int p = 0; p < STAFF_LIMIT; p++) {
                speed[p] = other.speed[p];
                leaveEnd[p] = other.leaveEnd[p];
                pay[p] = other.pay[p];
            }
            for (int i = 0; i < SETTINGS; i++) {
                settings[i] = other.settings[i];
            }
            sessionCount = other.sessionCount;
            for (int k = 0; k < sessionCount; k++) {
                sessions[k].copyFrom(other.sessions[k]);
            }
            desks.copyFrom(other.desks);
            lost = other.lost;
            fines = other.fines;
            done = other.done;
            typed = other.typed;
        }

        // ---- what hinders a call, in the order in which the document names the exceptions

        int staffFault(int p) {
            return p < 0 || p >= staff ? NO_SUCH : NO_FAULT;
        }

        int numberFault(int k) {
            return k < 0 || k >= sessionCount ? NO_SUCH : NO_FAULT;
        }

        int hireFault(int speedOfIt) {
            if (speedOfIt < 1 || speedOfIt > 20) {
                return OUT_OF_RANGE;
            }
            return staff >= STAFF_LIMIT ? NOT_NOW : NO_FAULT;
        }

        int sessionFault(int room, int day, int first, int slots, int talk) {
            if (room < 0 || room >= ROOMS) {
                return NO_SUCH;
            }
            if (!isPlace(day, first, slots) || talk < 1 || talk > 9) {
                return OUT_OF_RANGE;
            }
            return sessionCount >= SESSION_LIMIT || isTaken(room, day, first, slots) ? NOT_NOW : NO_FAULT;
        }

        int giveFault(int k, int p) {
            if (numberFault(k) != NO_FAULT || (p != NONE && staffFault(p) != NO_FAULT)) {
                return NO_SUCH;
            }
            if (p == NONE || sessions[k].holder == p) {
                return NO_FAULT;
            }
            return reasonAgainst(k, p) != 0 ? NOT_NOW : NO_FAULT;
        }

        int extendFault(int k, int n) {
            if (numberFault(k) != NO_FAULT) {
                return NO_SUCH;
            }
            return n < 1 || n > SLOTS ? OUT_OF_RANGE : NO_FAULT;
        }

        int leaveFault(int p, int days) {
            if (staffFault(p) != NO_FAULT) {
                return NO_SUCH;
            }
            return days < 0 || days > 30 ? OUT_OF_RANGE : NO_FAULT;
        }

        int runFault(int n) {
            return n < 1 || n > 30 ? OUT_OF_RANGE : NO_FAULT;
        }

        int setFault(int what, int v) {
            switch (what) {
                case SLOTS_IN_A_ROW:
                case SLOTS_A_DAY: return v < 1 || v > SLOTS ? OUT_OF_RANGE : NO_FAULT;
                case DAYS_FOR_TRANSCRIPT: return v < 0 || v > 30 ? OUT_OF_RANGE : NO_FAULT;
                case FINE: return v < 0 || v > 99 ? OUT_OF_RANGE : NO_FAULT;
                default: return OUT_OF_RANGE;
            }
        }

        boolean isPlace(int day, int first, int slots) {
            return day >= today && day <= LAST_DAY
                && first >= 0 && first < SLOTS
                && slots >= 1 && slots <= SLOTS - first;
        }

        boolean isTaken(int room, int day, int first, int slots) {
            for (int k = 0; k < sessionCount; k++) {
                Session s = sessions[k];
                if (s.room == room && s.day == day && s.first < first + slots && first < s.first + s.slots) {
                    return true;
                }
            }
            return false;
        }

        // ---- who can be given a session

        /** The slots of sessions of p on a day as bits, without those of the session number except. */
        private int busyBits(int p, int day, int except) {
            int bits = 0;
            for (int k = 0; k < sessionCount; k++) {
                Session s = sessions[k];
                if (k != except && s.holder == p && s.day == day) {
                    bits |= s.bits();
                }
            }
            return bits;
        }

        // No two sessions of one stenographer ever share a slot, so that the bits tell the number of slots.
        int slotsOn(int p, int day) {
            return Integer.bitCount(busyBits(p, day, NONE));
        }

        /** Why p cannot be given the session k, as if it had no stenographer; 0 if it is possible. */
        int reasonAgainst(int k, int p) {
            Session s = sessions[k];
            if (s.day < leaveEnd[p]) {
                return 1;
            }
            int others = busyBits(p, s.day, k);
            if ((others & s.bits()) != 0) {
                return 2;
            }
            int all = others | s.bits();
            if (longestRow(all) > settings[SLOTS_IN_A_ROW]) {
                return 3;
            }
            return Integer.bitCount(all) > settings[SLOTS_A_DAY] ? 4 : 0;
        }

        private static int longestRow(int bits) {
            int longest = 0;
            int row = 0;
            for (int slot = 0; slot < SLOTS; slot++) {
                row = (bits >> slot & 1) == 1 ? row + 1 : 0;
                longest = Math.max(longest, row);
            }
            return longest;
        }

        int bestFor(int k) {
            int best = NONE;
            int bestSlots = 0;
            int bestPages = 0;
            for (int p = 0; p < staff; p++) {
                if (reasonAgainst(k, p) == 0) {
                    int slots = Integer.bitCount(busyBits(p, sessions[k].day, k));
                    int pages = desks.pagesOf(p);
                    if (best == NONE || slots < bestSlots || (slots == bestSlots && pages < bestPages)) {
                        best = p;
                        bestSlots = slots;
                        bestPages = pages;
                    }
                }
            }
            return best;
        }

        int giveToBest() {
            int given = 0;
            for (int k = 0; k < sessionCount; k++) {
                if (sessions[k].holder == NONE) {
                    sessions[k].holder = bestFor(k);
                    given += sessions[k].holder == NONE ? 0 : 1;
                }
            }
            return given;
        }

        int sessionsOf(int p) {
            int n = 0;
            for (int k = 0; k < sessionCount; k++) {
                if (sessions[k].holder == p) {
                    n++;
                }
            }
            return n;
        }

        // ---- changes; their arguments have been checked

        int addStenographer(int speedOfIt) {
            int p = staff;
            speed[p] = speedOfIt;
            leaveEnd[p] = 0;
            pay[p] = 0;
            staff++;
            return p;
        }

        int addSession(int room, int day, int first, int slots, int talk) {
            int k = sessionCount;
            Session s = sessions[k];
            s.room = room;
            s.day = day;
            s.first = first;
            s.slots = slots;
            s.talk = talk;
            s.holder = NONE;
            sessionCount++;
            return moveForward(k);
        }

        /** Moves a session to its place among those ahead of it, and tells that place. */
        private int moveForward(int k) {
            Session s = sessions[k];
            int place = k;
            while (place > 0 && sessions[place - 1].order() > s.order()) {
                sessions[place] = sessions[place - 1];
                place--;
            }
            sessions[place] = s;
            return place;
        }

        void removeSession(int k) {
            Session gone = sessions[k];
            for (int i = k + 1; i < sessionCount; i++) {
                sessions[i - 1] = sessions[i];
            }
            sessionCount--;
            sessions[sessionCount] = gone;
        }

        int lengthen(int k, int n) {
            Session s = sessions[k];
            s.slots = Math.min(s.slots + n, SLOTS - s.first);
            driveOutLater(k);
            freeFromOverlap(k);
            removeEmpty();
            for (int i = 0; i < sessionCount; i++) {
                moveForward(i);
            }
            return s.slots;
        }

        // A session that is gone keeps the place behind the last slot for now, so that those behind it go too.
        private void driveOutLater(int k) {
            Session before = sessions[k];
            for (int i = k + 1; i < sessionCount; i++) {
                Session s = sessions[i];
                if (s.room == before.room && s.day == before.day) {
                    int end = before.first + before.slots;
                    if (s.first < end) {
                        s.first = end;
                        s.slots = Math.min(s.slots, SLOTS - end);
                        s.holder = NONE;
                    }
                    before = s;
                }
            }
        }

        private void freeFromOverlap(int k) {
            Session longer = sessions[k];
            for (int i = 0; i < sessionCount; i++) {
                Session s = sessions[i];
                if (i != k && s.holder == longer.holder && s.day == longer.day && (s.bits() & longer.bits()) != 0) {
                    s.holder = NONE;
                }
            }
        }

        private void removeEmpty() {
            for (int k = sessionCount - 1; k >= 0; k--) {
                if (sessions[k].slots == 0) {
                    removeSession(k);
                }
            }
        }

        int sendOnLeave(int p, int days) {
            leaveEnd[p] = today + days;
            int freed = 0;
            for (int k = 0; k < sessionCount; k++) {
                Session s = sessions[k];
                if (s.holder == p && s.day < leaveEnd[p]) {
                    s.holder = NONE;
                    freed++;
                }
            }
            return freed;
        }

        // ---- days

        int finesOfDays(int n) {
            int before = fines;
            for (int i = 0; i < n; i++) {
                letDayGoBy();
            }
            return fines - before;
        }

        void letDayGoBy() {
            holdSessions();
            for (int p = 0; p < staff; p++) {
                int held = slotsOn(p, today);
                pay[p] += payFor(held);
                if (today >= leaveEnd[p]) {
                    typePages(p, (SLOTS - held) * speed[p]);
                }
            }
            fines += settings[FINE] * desks.dueUpTo(today);
            removeTodays();
            today++;
        }

        // They stay on the calendar until the slots have been counted for pay and typing.
        private void holdSessions() {
            desks.makeRoomFor(desks.count + sessionCount);
            for (int k = 0; k < sessionCount; k++) {
                Session s = sessions[k];
                if (s.day == today) {
                    if (s.holder == NONE) {
                        lost++;
                    } else {
                        desks.put(s.holder, s.slots * s.talk, today + settings[DAYS_FOR_TRANSCRIPT]);
                    }
                }
            }
        }

        private static int payFor(int slots) {
            return 2 * slots + Math.max(0, slots - 8);
        }

        private void typePages(int p, int most) {
            int left = most;
            for (int i = desks.count; i > 0 && left > 0; i--) {
                int place = desks.nextOf(p);
                if (place == NONE) {
                    return;
                }
                int now = Math.min(left, desks.pages[place]);
                left -= now;
                typed += now;
                desks.pages[place] -= now;
                if (desks.pages[place] == 0) {
                    desks.takeAway(place);
                    done++;
                }
            }
        }

        private void removeTodays() {
            for (int k = sessionCount - 1; k >= 0; k--) {
                if (sessions[k].day == today) {
                    removeSession(k);
                }
            }
        }

        int allPay() {
            int sum = 0;
            for (int p = 0; p < staff; p++) {
                sum += pay[p];
            }
            return sum;
        }
    }

    /** The text, and a reader that goes through it from left to right. */
    private static final class Text {
        static final int LIMIT = 120;

        final int[] signs = new int[LIMIT];
        int length = 0;
        private int at = 0;
        private int error = NONE;
        // The command that was read last.
        int letter = 0;
        final int[] numbers = new int[5];

        int addSign(int c) {
            signs[length] = c;
            length++;
            return length;
        }

        int findError() {
            begin();
            for (int i = 0; i < LIMIT && readCommand(); i++) {
                // Only whether each one can be read is of interest.
            }
            return error;
        }

        void begin() {
            at = 1;
            error = length > 0 && signs[0] == 'J' ? NONE : 0;
        }

        /** Reads the next command; false if there is none, or an error. */
        boolean readCommand() {
            if (error != NONE || at >= length) {
                return false;
            }
            letter = signs[at];
            at++;
            switch (letter) {
                case 'n': return readNumber(0, 2, 1, 20);
                case 's': return readNumber(0, 1, 0, 4) && readNumber(1, 1, 0, 9) && readNumber(2, 2, 0, 15)
                    && readNumber(3, 2, 1, 16) && readNumber(4, 1, 1, 9);
                case 'g': return readNumber(0, 2, 0, 15) && readNumber(1, 1, 0, 5);
                case 'a': return true;
                case 'd': return readNumber(0, 1, 1, 9);
                default:
                    error = at - 1;
                    return false;
            }
        }

        /** Reads one or two digits of a number from low to high. */
        private boolean readNumber(int index, int digits, int low, int high) {
            int value = 0;
            for (int i = 1; i <= digits; i++) {
                int digit = at < length ? signs[at] - '0' : NONE;
                value = 10 * value + digit;
                // The numbers that begin with these digits are those from least to least + span - 1.
                int span = i < digits ? 10 : 1;
                int least = value * span;
                if (digit < 0 || digit > 9 || least > high || least + span - 1 < low) {
                    error = at;
                    return false;
                }
                at++;
            }
            numbers[index] = value;
            return true;
        }
    }

    /** Commands of texts, scripts and simulations; each does what it can do, and tells whether it could. */
    private static final class Commands {
        static final int GROUP = 100000;

        private static boolean tryHire(Calendar c, int speed) {
            if (c.hireFault(speed) != NO_FAULT) {
                return false;
            }
            c.addStenographer(speed);
            return true;
        }

        private static boolean trySession(Calendar c, int room, int day, int first, int slots, int talk) {
            if (c.sessionFault(room, day, first, slots, talk) != NO_FAULT) {
                return false;
            }
            c.addSession(room, day, first, slots, talk);
            return true;
        }

        private static boolean tryGive(Calendar c, int k, int p) {
            if (c.giveFault(k, p) != NO_FAULT) {
                return false;
            }
            c.sessions[k].holder = p;
            return true;
        }

        private static boolean tryExtend(Calendar c, int k, int n) {
            if (c.extendFault(k, n) != NO_FAULT) {
                return false;
            }
            c.lengthen(k, n);
            return true;
        }

        private static boolean tryLeave(Calendar c, int p, int days) {
            if (c.leaveFault(p, days) != NO_FAULT) {
                return false;
            }
            c.sendOnLeave(p, days);
            return true;
        }

        private static boolean tryRun(Calendar c, int n) {
            if (c.runFault(n) != NO_FAULT) {
                return false;
            }
            // Not by finesOfDays: so calls stay a level below the eight that LANGUAGE.md allows.
            for (int i = 0; i < n; i++) {
                c.letDayGoBy();
            }
            return true;
        }

        static boolean doTextCommand(Calendar c, Text t) {
            int[] v = t.numbers;
            switch (t.letter) {
                case 'n': return tryHire(c, v[0]);
                case 's': return trySession(c, v[0], v[1], v[2], v[3], v[4]);
                case 'g': return tryGive(c, v[0], v[1]);
                case 'a':
                    c.giveToBest();
                    return true;
                case 'd': return tryRun(c, v[0]);
                default: return false;
            }
        }

        /** Does a group of five digits. */
        static boolean doScriptCommand(Calendar c, int group) {
            int d2 = group / 1000 % 10;
            int d3 = group / 100 % 10;
            int d4 = group / 10 % 10;
            int d5 = group % 10;
            int d23 = 10 * d2 + d3;
            int d34 = 10 * d3 + d4;
            int d45 = 10 * d4 + d5;
            if (group == 30000) {
                c.giveToBest();
                return true;
            }
            switch (group / 10000) {
                case 1: return trySession(c, d2, c.today, d34, d5, 3);
                case 2: return d5 == 0 && tryGive(c, d23, d4);
                case 4: return tryExtend(c, d23, d45);
                case 5: return d3 == 0 && tryLeave(c, d2, d45);
                case 6: return d23 == 0 && tryRun(c, d45);
                case 7: return d23 == 0 && c.sessionsOf(NONE) <= d45;
                case 8: return d5 == 0 && c.staffFault(d2) == NO_FAULT && c.desks.countOf(d2) <= d34;
                case 9: return d5 == 0 && c.numberFault(d23) == NO_FAULT && c.sessions[d23].holder == d4;
                default: return false;
            }
        }

        /** Does a turn of a simulation. */
        static void doTurn(Calendar c, int r) {
            int q = r / 8;
            switch (r % 8) {
                case 3: c.giveToBest(); break;
                case 4: tryExtend(c, q % 16, 1 + q / 16 % 4); break;
                case 5: tryLeave(c, q % 6, q / 6 % 4); break;
                case 6: tryGive(c, q % 16, q / 16 % 6); break;
                case 7: c.letDayGoBy(); break;
                default: trySession(c, q % 5, c.today + q / 5 % 4, q / 20 % 16, 1 + q / 320 % 5, 1 + q / 1600 % 9); break;
            }
        }
    }
}
