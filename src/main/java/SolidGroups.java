import java.util.ArrayList;

/**
 * Entries are packed together in groups: like ones behind one another, equal ones once; a group is
 * a row of bytes and of copies of what stands before.
 */
public final class SolidGroups {
    public static final int BAD = -1, NO = -2, FULL = -3;

    private static final int MOST_ENTRIES = 30;
    private static final int KINDS = 6;
    private static final int MOST_BYTES = 60;
    private static final int BYTE_VALUES = 256;
    private static final int MOST_OCTETS = 8;
    private static final int MARK_VALUES = 32;
    private static final int MOST_BOUND = 400;
    private static final int WAY_BY_NUMBERS = 0;
    private static final int WAY_BEST = 2;
    private static final int MOST_FOR_BEST = 7;
    private static final int LEAST_COPY = 4;
    private static final int MOST_COPY = 60;
    private static final int COPY_SIZE = 3;
    private static final int NONE = -1;

    private final ArrayList<Entry> entries = new ArrayList<>();
    private final ArrayList<Group> groups = new ArrayList<>();
    // Groups of earlier packings are used again, so that packing often needs no new room.
    private final ArrayList<Group> spareGroups = new ArrayList<>();
    private final ArrayList<Entry> line = new ArrayList<>();
    private final Arranger arranger = new Arranger();
    private final RowMaker rowMaker = new RowMaker();
    private boolean packed = false;
    private int packedBound = 0;

    public SolidGroups() {
    }

    public int entry(int kind) {
        if (!isKind(kind)) {
            return BAD;
        }
        int number = entries.size();
        if (number >= MOST_ENTRIES) {
            return FULL;
        }
        entries.add(new Entry(number, kind));
        packed = false;
        return number;
    }

    public int octets(int entry, int n, long bytes) {
        if (!isEntry(entry) || n < 1 || n > MOST_OCTETS) {
            return BAD;
        }
        Entry it = entries.get(entry);
        if (it.length + n > MOST_BYTES) {
            return FULL;
        }
        it.append(n, bytes);
        packed = false;
        return it.length;
    }

    public int change(int entry, int i, int b) {
        if (!isByteOf(entry, i) || b < 0 || b >= BYTE_VALUES) {
            return BAD;
        }
        Entry it = entries.get(entry);
        int was = it.bytes[i];
        if (was != b) {
            it.replace(i, b);
            if (packed) {
                packChanged(it);
            }
        }
        return was;
    }

    public int pack(int bound, int way) {
        if (bound < 1 || bound > MOST_BOUND || way < WAY_BY_NUMBERS || way > WAY_BEST) {
            return BAD;
        }
        packed = true;
        packedBound = bound;
        findTwins();
        dropGroups();
        for (int kind = 0; kind < KINDS; kind++) {
            lineUpKept(kind);
            arranger.arrange(line, way);
            groupLine(kind);
        }
        for (int g = 0; g < groups.size(); g++) {
            rowMaker.makeRow(groups.get(g));
        }
        return groups.size();
    }

    public int common(int a, int b) {
        if (!isEntry(a) || !isEntry(b)) {
            return BAD;
        }
        return commonMarks(entries.get(a), entries.get(b));
    }

    public int share(int a, int b) throws ArithmeticException {
        if (!isEntry(a) || !isEntry(b)) {
            return BAD;
        }
        Entry one = entries.get(a);
        Entry other = entries.get(b);
        int both = commonMarks(one, other);
        int all = one.markCount() + other.markCount() - both;
        if (all <= 0) {
            throw new ArithmeticException("neither entry has marks");
        }
        return 100 * both / all;
    }

    public int distance(int a, int b) {
        if (!isEntry(a) || !isEntry(b)) {
            return BAD;
        }
        return apart(entries.get(a), entries.get(b));
    }

    public int order(int i) {
        if (!packed) {
            return NO;
        }
        if (i < 0) {
            return BAD;
        }
        int left = i;
        for (int g = 0; g < groups.size(); g++) {
            Group group = groups.get(g);
            int here = group.members.size();
            if (left < here) {
                return group.members.get(left).number;
            }
            left -= here;
        }
        return BAD;
    }

    public int twin(int entry) {
        if (!isEntry(entry)) {
            return BAD;
        }
        if (!packed) {
            return NO;
        }
        return entries.get(entry).twinOf;
    }

    public int group(int entry) {
        if (!isEntry(entry)) {
            return BAD;
        }
        if (!packed) {
            return NO;
        }
        return groupNumberOf(entries.get(entry).twinOf);
    }

    public int place(int entry) {
        if (!isEntry(entry)) {
            return BAD;
        }
        if (!packed) {
            return NO;
        }
        return placeOf(entries.get(entry));
    }

    public int access(int entry) {
        if (!isEntry(entry)) {
            return BAD;
        }
        if (!packed) {
            return NO;
        }
        Entry it = entries.get(entry);
        int number = groupNumberOf(it.twinOf);
        if (it.length == 0 || !isGroup(number)) {
            return 0;
        }
        return groups.get(number).row.tokensTill(placeOf(it) + it.length);
    }

    public int open(int entry, int i) {
        if (!isByteOf(entry, i)) {
            return BAD;
        }
        if (!packed) {
            return NO;
        }
        Entry it = entries.get(entry);
        int number = groupNumberOf(it.twinOf);
        if (!isGroup(number)) {
            return BAD;
        }
        return groups.get(number).row.unpack(placeOf(it) + i);
    }

    public int of(int group, int what) {
        if (!packed) {
            return NO;
        }
        if (!isGroup(group)) {
            return BAD;
        }
        Group it = groups.get(group);
        switch (what) {
            case 0:
                return it.kind;
            case 1:
                return it.members.size();
            case 2:
                return it.byteCount();
            case 3:
                return it.row.count;
            case 4:
                return it.row.size;
            case 5:
                return it.madeAnew;
            default:
                return BAD;
        }
    }

    public int token(int group, int i, int what) {
        if (!packed) {
            return NO;
        }
        if (!isGroup(group)) {
            return BAD;
        }
        TokenRow row = groups.get(group).row;
        if (i < 0 || i >= row.count) {
            return BAD;
        }
        switch (what) {
            case 0:
                return row.value[i];
            case 1:
                return row.back[i];
            case 2:
                return row.many[i];
            default:
                return BAD;
        }
    }

    public int sum(int kind) {
        if (!isKind(kind)) {
            return BAD;
        }
        if (!packed) {
            return NO;
        }
        line.clear();
        for (int g = 0; g < groups.size(); g++) {
            if (groups.get(g).kind == kind) {
                groups.get(g).addMembersTo(line);
            }
        }
        int together = 0;
        for (int i = 1; i < line.size(); i++) {
            together += apart(line.get(i - 1), line.get(i));
        }
        return together;
    }

    public int count(int what) {
        if (what < 0 || what > 3) {
            return BAD;
        }
        if (what == 0) {
            return entries.size();
        }
        if (!packed) {
            return NO;
        }
        if (what == 2) {
            return groups.size();
        }
        int kept = 0;
        int sizes = 0;
        for (int g = 0; g < groups.size(); g++) {
            kept += groups.get(g).members.size();
            sizes += groups.get(g).row.size;
        }
        return what == 1 ? kept : sizes;
    }

    private static boolean isKind(int kind) {
        return kind >= 0 && kind < KINDS;
    }

    private boolean isEntry(int number) {
        return number >= 0 && number < entries.size();
    }

    private boolean isByteOf(int number, int i) {
        return isEntry(number) && i >= 0 && i < entries.get(number).length;
    }

    private boolean isGroup(int number) {
        return number >= 0 && number < groups.size();
    }

    private static int commonMarks(Entry a, Entry b) {
        int together = 0;
        for (int m = 0; m < MARK_VALUES; m++) {
            together += Math.min(a.marks[m], b.marks[m]);
        }
        return together;
    }

    private static int apart(Entry a, Entry b) {
        int together = Math.abs(a.length - b.length);
        for (int m = 0; m < MARK_VALUES; m++) {
            together += Math.abs(a.marks[m] - b.marks[m]);
        }
        return together;
    }

    private void findTwins() {
        for (int e = 0; e < entries.size(); e++) {
            Entry it = entries.get(e);
            it.twinOf = firstLike(it);
        }
    }

    private int firstLike(Entry it) {
        for (int e = 0; e < it.number; e++) {
            if (isEntry(e) && it.isLike(entries.get(e))) {
                return e;
            }
        }
        return it.number;
    }

    private void dropGroups() {
        for (int g = 0; g < groups.size(); g++) {
            spareGroups.add(groups.get(g));
        }
        groups.clear();
    }

    private void lineUpKept(int kind) {
        line.clear();
        for (int e = 0; e < entries.size(); e++) {
            Entry it = entries.get(e);
            if (it.kind == kind && it.isKept()) {
                line.add(it);
            }
        }
    }

    private void groupLine(int kind) {
        for (int i = 0; i < line.size(); i++) {
            putAtEndOf(kind, line.get(i));
        }
    }

    /** Used by pack and by change alike: the last GROUP of the KIND takes it, or a new one behind it. */
    private Group putAtEndOf(int kind, Entry it) {
        int last = lastGroupOf(kind);
        if (isGroup(last)) {
            Group group = groups.get(last);
            if (group.byteCount() + it.length <= packedBound) {
                group.members.add(it);
                return group;
            }
        }
        Group fresh = freshGroup(kind);
        fresh.members.add(it);
        groups.add(isGroup(last) ? last + 1 : groups.size(), fresh);
        return fresh;
    }

    private int lastGroupOf(int kind) {
        for (int g = groups.size() - 1; g >= 0; g--) {
            if (groups.get(g).kind == kind) {
                return g;
            }
        }
        return NONE;
    }

    private Group freshGroup(int kind) {
        Group group = spareGroups.isEmpty() ? new Group() : spareGroups.remove(spareGroups.size() - 1);
        group.begin(kind);
        return group;
    }

    private int groupNumberOf(int kept) {
        for (int g = 0; g < groups.size(); g++) {
            if (groups.get(g).indexOf(kept) != NONE) {
                return g;
            }
        }
        return BAD;
    }

    private int placeOf(Entry it) {
        int number = groupNumberOf(it.twinOf);
        return isGroup(number) ? groups.get(number).placeOf(it.twinOf) : BAD;
    }

    private void packChanged(Entry it) {
        Group home = homeOfChanged(it);
        if (home != null) {
            rowMaker.makeRow(home);
            home.madeAnew++;
        }
    }

    private Group homeOfChanged(Entry it) {
        if (!it.isKept()) {
            it.twinOf = it.number;
            return putAtEndOf(it.kind, it);
        }
        int heir = leastTwinOf(it.number);
        if (isEntry(heir)) {
            handOver(it, entries.get(heir));
            return putAtEndOf(it.kind, it);
        }
        int stays = groupNumberOf(it.number);
        return isGroup(stays) ? groups.get(stays) : null;
    }

    private int leastTwinOf(int kept) {
        for (int e = 0; e < entries.size(); e++) {
            if (e != kept && entries.get(e).twinOf == kept) {
                return e;
            }
        }
        return NONE;
    }

    /** The heir has the bytes that the other had, so the GROUP's ROW tells the same as before. */
    private void handOver(Entry from, Entry heir) {
        int number = groupNumberOf(from.number);
        if (isGroup(number)) {
            groups.get(number).exchange(from.number, heir);
        }
        for (int e = 0; e < entries.size(); e++) {
            if (e != from.number && entries.get(e).twinOf == from.number) {
                entries.get(e).twinOf = heir.number;
            }
        }
    }

    private static final class Entry {
        final int number;
        final int kind;
        final int[] bytes = new int[MOST_BYTES];
        final int[] marks = new int[MARK_VALUES];
        int length = 0;
        int twinOf;

        Entry(int number, int kind) {
            this.number = number;
            this.kind = kind;
            this.twinOf = number;
        }

        boolean isKept() {
            return twinOf == number;
        }

        int markCount() {
            return Math.max(0, length - 2);
        }

        void append(int n, long lowFirst) {
            for (int k = 0; k < n && length < MOST_BYTES; k++) {
                bytes[length] = (int) (lowFirst >>> (8 * k)) & (BYTE_VALUES - 1);
                length++;
            }
            countMarks();
        }

        void replace(int i, int b) {
            if (i >= 0 && i < length) {
                bytes[i] = b;
                countMarks();
            }
        }

        private void countMarks() {
            for (int m = 0; m < MARK_VALUES; m++) {
                marks[m] = 0;
            }
            for (int i = 0; i + 2 < length; i++) {
                marks[(7 * bytes[i] + 5 * bytes[i + 1] + 3 * bytes[i + 2]) & (MARK_VALUES - 1)]++;
            }
        }

        boolean isLike(Entry other) {
            if (kind != other.kind || length != other.length) {
                return false;
            }
            for (int i = 0; i < length; i++) {
                if (bytes[i] != other.bytes[i]) {
                    return false;
                }
            }
            return true;
        }
    }

    private static final class Group {
        final ArrayList<Entry> members = new ArrayList<>();
        final TokenRow row = new TokenRow();
        int kind = 0;
        int madeAnew = 0;

        void begin(int newKind) {
            kind = newKind;
            madeAnew = 0;
            members.clear();
            row.clear();
        }

        int byteCount() {
            return bytesBefore(members.size());
        }

        int indexOf(int number) {
            for (int m = 0; m < members.size(); m++) {
                if (members.get(m).number == number) {
                    return m;
                }
            }
            return NONE;
        }

        int placeOf(int number) {
            return bytesBefore(indexOf(number));
        }

        private int bytesBefore(int index) {
            int together = 0;
            for (int m = 0; m < index && m < members.size(); m++) {
                together += members.get(m).length;
            }
            return together;
        }

        void exchange(int number, Entry heir) {
            int index = indexOf(number);
            if (index != NONE) {
                members.set(index, heir);
            }
        }

        void addMembersTo(ArrayList<Entry> list) {
            for (int m = 0; m < members.size(); m++) {
                list.add(members.get(m));
            }
        }
    }

    /** The TOKENS of one GROUP: a BYTE has its value and goes 0 back, a COPY has the value NONE. */
    private static final class TokenRow {
        final int[] value = new int[MOST_BOUND];
        final int[] back = new int[MOST_BOUND];
        final int[] many = new int[MOST_BOUND];
        int count = 0;
        int size = 0;

        void clear() {
            count = 0;
            size = 0;
        }

        void addByte(int b) {
            addToken(b, 0, 1);
            size++;
        }

        void addCopy(int howFarBack, int howMany) {
            addToken(NONE, howFarBack, howMany);
            size += COPY_SIZE;
        }

        private void addToken(int itsValue, int howFarBack, int howMany) {
            if (count < MOST_BOUND) {
                value[count] = itsValue;
                back[count] = howFarBack;
                many[count] = howMany;
                count++;
            }
        }

        int tokensTill(int bytes) {
            int there = 0;
            for (int t = 0; t < count; t++) {
                if (there >= bytes) {
                    return t;
                }
                there += many[t];
            }
            return count;
        }

        /** Follows copies back to the BYTE that they come from; each goes back by 1 at least. */
        int unpack(int place) {
            int at = place;
            for (int hop = 0; hop <= place && at >= 0; hop++) {
                int t = tokensTill(at + 1) - 1;
                if (t < 0) {
                    return BAD;
                }
                if (value[t] != NONE) {
                    return value[t];
                }
                at -= back[t];
            }
            return BAD;
        }
    }

    private static final class RowMaker {
        private final int[] content = new int[MOST_BOUND];
        private int length = 0;
        private int foundBack = 0;
        private int foundMany = 0;

        void makeRow(Group group) {
            gather(group.members);
            group.row.clear();
            int at = 0;
            while (at < length) {
                findCopy(at);
                if (foundMany >= LEAST_COPY) {
                    group.row.addCopy(foundBack, foundMany);
                    at += foundMany;
                } else {
                    group.row.addByte(content[at]);
                    at++;
                }
            }
        }

        private void gather(ArrayList<Entry> members) {
            length = 0;
            for (int m = 0; m < members.size(); m++) {
                Entry it = members.get(m);
                for (int i = 0; i < it.length && length < MOST_BOUND; i++) {
                    content[length] = it.bytes[i];
                    length++;
                }
            }
        }

        /** Goes from the nearest place on, so that of like ones the nearest stays. */
        private void findCopy(int at) {
            int most = Math.min(MOST_COPY, length - at);
            foundBack = 0;
            foundMany = 0;
            for (int far = 1; far <= at && foundMany < most; far++) {
                int same = sameBytes(at - far, at, most);
                if (same > foundMany) {
                    foundBack = far;
                    foundMany = same;
                }
            }
        }

        private int sameBytes(int before, int at, int most) {
            int same = 0;
            while (same < most && content[before + same] == content[at + same]) {
                same++;
            }
            return same;
        }
    }

    /** Brings the KEPT ones of a KIND, that come by numbers, into THE ORDER. */
    private static final class Arranger {
        private final ArrayList<Entry> byNumbers = new ArrayList<>();
        private final int[] steps = new int[MOST_FOR_BEST * MOST_FOR_BEST];
        // For a set of entries and one outside of it: the least sum of a row of them all that
        // begins with that one. Sets in place of rows: 128 times 7 sums, not 5040 rows.
        private final int[] sums = new int[(1 << MOST_FOR_BEST) * MOST_FOR_BEST];

        void arrange(ArrayList<Entry> line, int way) {
            if (way == WAY_BEST && line.size() <= MOST_FOR_BEST) {
                arrangeBest(line);
            } else if (way != WAY_BY_NUMBERS) {
                arrangeChain(line);
            }
        }

        /** Those that have not come stay by numbers, so the first of the nearest has the least. */
        private void arrangeChain(ArrayList<Entry> line) {
            for (int come = 1; come < line.size(); come++) {
                Entry last = line.get(come - 1);
                int nearest = come;
                int least = apart(last, line.get(come));
                for (int i = come + 1; i < line.size(); i++) {
                    int far = apart(last, line.get(i));
                    if (far < least) {
                        least = far;
                        nearest = i;
                    }
                }
                line.add(come, line.remove(nearest));
            }
        }

        private void arrangeBest(ArrayList<Entry> line) {
            int n = line.size();
            byNumbers.clear();
            for (int i = 0; i < n; i++) {
                byNumbers.add(line.get(i));
            }
            measureSteps(n);
            measureSums(n);
            int left = (1 << n) - 1;
            int last = NONE;
            for (int i = 0; i < n; i++) {
                int next = bestNext(last, left, n);
                if (next >= 0 && next < n) {
                    line.set(i, byNumbers.get(next));
                    left &= ~(1 << next);
                    last = next;
                }
            }
        }

        private void measureSteps(int n) {
            for (int a = 0; a < n; a++) {
                for (int b = 0; b < n; b++) {
                    steps[a * MOST_FOR_BEST + b] = apart(byNumbers.get(a), byNumbers.get(b));
                }
            }
        }

        private void measureSums(int n) {
            for (int set = 0; set < 1 << n; set++) {
                for (int first = 0; first < n; first++) {
                    if ((set >> first & 1) == 0) {
                        int next = bestNext(first, set, n);
                        sums[set * MOST_FOR_BEST + first] = next < 0 ? 0 : sumBy(first, next, set);
                    }
                }
            }
        }

        /** The least one with which the rest of the row can have the least sum; NONE of no set. */
        private int bestNext(int last, int set, int n) {
            int best = NONE;
            int least = 0;
            for (int next = 0; next < n; next++) {
                if ((set >> next & 1) != 0) {
                    int together = sumBy(last, next, set);
                    if (best == NONE || together < least) {
                        best = next;
                        least = together;
                    }
                }
            }
            return best;
        }

        private int sumBy(int last, int next, int set) {
            int step = last == NONE ? 0 : steps[last * MOST_FOR_BEST + next];
            return step + sums[(set & ~(1 << next)) * MOST_FOR_BEST + next];
        }
    }
}
