import java.util.NoSuchElementException;

/**
 * Name spaces of mounts: volumes with directories are mounted upon one another; mounts that are
 * shared in groups copy to one another what is mounted on them.
 */
public final class MountSpaces {
    public static final int SYNTAX_ERROR = -12;
    public static final int UNKNOWN = -13;
    public static final int DUPLICATE = -14;
    public static final int TOO_MANY = -15;
    public static final int IMPOSSIBLE = -16;

    private static final int TAKEN = -1;
    private static final int SECRET = -2;
    private static final int LOCKED = -3;
    private static final int ROOT = -4;
    private static final int BUSY = -5;
    private static final int SHARED = -6;
    private static final int ELSEWHERE = -7;
    private static final int FULL = -8;

    private static final int MAX_VOLUMES = 4;
    private static final int MAX_DIRECTORIES = 12;
    private static final int MAX_SPACES = 4;
    private static final int MAX_MOUNTS = 40;
    private static final int MAX_PLACES = MAX_MOUNTS * MAX_DIRECTORIES;
    private static final int MAX_INPUT = 600;
    private static final int MAX_NAME = 6;
    private static final int MAX_NESTING = 5;
    private static final int MAX_UNDO = 8;

    private static final int PRIVATE_KIND = 0;
    private static final int SHARED_KIND = 1;
    private static final int SLAVE_KIND = 2;
    private static final int SECRET_KIND = 3;

    /** Stands for a row, a directory or a mount that is not there. */
    private static final int NOTHING = -1;

    private final Input input = new Input();
    private int errorAt = -1;

    private final Mounts now = new Mounts();
    private final Changer changer = new Changer(now);
    private final Walker walker = new Walker(now);
    private final Followers following = new Followers(now);
    private final Sight sight = new Sight(now);
    private final PathText pathText = new PathText(now);

    // A setup text is carried out on a draft, so that one with an error leaves the data alone.
    private final Mounts draft = new Mounts();
    private final Setup setup = new Setup(input, draft);

    private final Past past = new Past();

    public MountSpaces() {
        now.volumes.add(0);
        now.begin(0);
    }

    public int append(int w0, int w1, int w2, int w3, int w4) {
        if (!input.hasRoom(20)) {
            return -1;
        }
        input.putWord(w0);
        input.putWord(w1);
        input.putWord(w2);
        input.putWord(w3);
        input.putWord(w4);
        return input.size;
    }

    public int load(int length) throws IllegalArgumentException {
        checkLength(length);
        input.open(length);
        boolean isGood = setup.readHead() && setup.readStatements();
        errorAt = input.errorAt;
        if (!isGood) {
            return input.error;
        }
        past.keep(now);
        now.takeOver(draft);
        return now.rows;
    }

    private void checkLength(int length) {
        if (length < 0 || length > input.size) {
            throw new IllegalArgumentException("the input buffer has no such length");
        }
    }

    public int errorOffset() {
        return errorAt;
    }

    public int count(int what) throws IllegalArgumentException {
        if (what < 0 || what > 8) {
            throw new IllegalArgumentException("there is no such count");
        }
        return now.countOf(what);
    }

    public int directories(int volume) throws IndexOutOfBoundsException {
        checkVolume(volume);
        return now.volumes.sizeOf(volume);
    }

    public int outer(int volume, int directory) throws IndexOutOfBoundsException {
        checkVolume(volume);
        if (directory < 0 || directory >= now.volumes.sizeOf(volume)) {
            throw new IndexOutOfBoundsException("there is no such directory");
        }
        return now.volumes.outerOf(volume, directory);
    }

    private void checkVolume(int volume) {
        if (volume < 0 || volume >= now.volumes.size) {
            throw new IndexOutOfBoundsException("there is no such volume");
        }
    }

    public int told(int mount, int what) throws NoSuchElementException, IllegalArgumentException {
        int row = rowOfMount(mount);
        if (what < 0 || what > 8) {
            throw new IllegalArgumentException("nothing is told by this number");
        }
        return now.fact(row, what);
    }

    /** The row of a mount that a caller named. */
    private int rowOfMount(int mount) {
        int row = now.rowOf(mount);
        if (row < 0) {
            throw new NoSuchElementException("there is no such mount");
        }
        return row;
    }

    /** The row of a mount that a caller named with a directory that must be in it. */
    private int rowWithPlace(int mount, int directory) {
        int row = rowOfMount(mount);
        if (!now.holds(row, directory)) {
            throw new NoSuchElementException("the directory is not in the mount");
        }
        return row;
    }

    public int mountAt(int index) throws IndexOutOfBoundsException {
        if (index < 0 || index >= now.rows) {
            throw new IndexOutOfBoundsException("there is no mount with this index");
        }
        return now.number[index];
    }

    public int mountOn(int mount, int directory) throws NoSuchElementException {
        int row = now.rowOn(rowWithPlace(mount, directory), directory);
        return row < 0 ? -1 : now.number[row];
    }

    public int look(int space, int length)
            throws IndexOutOfBoundsException, IllegalArgumentException {
        checkSpace(space);
        checkLength(length);
        input.open(length);
        boolean isGood = walker.follow(input, space) && input.takeEnd();
        errorAt = input.errorAt;
        return isGood ? 100 * now.number[walker.row] + walker.directory : input.error;
    }

    private void checkSpace(int space) {
        if (space < 0 || space >= now.spaces) {
            throw new IndexOutOfBoundsException("there is no such space");
        }
    }

    public int seen(int space) throws IndexOutOfBoundsException {
        checkSpace(space);
        return sight.survey(space);
    }

    public boolean isSeen(int mount, int directory) throws NoSuchElementException {
        int row = rowWithPlace(mount, directory);
        sight.survey(now.space[row]);
        return sight.shows(row, directory);
    }

    public int followers(int mount) throws NoSuchElementException {
        following.gather(rowOfMount(mount));
        return following.size;
    }

    public int wouldMake(int mount, int directory) throws NoSuchElementException {
        int row = rowWithPlace(mount, directory);
        return now.rowOn(row, directory) < 0
            ? 1 + changer.copiesFor(row, directory, NOTHING) : 0;
    }

    public int path(int mount) throws NoSuchElementException {
        return pathText.write(rowOfMount(mount));
    }

    public int pathByte(int index) throws IndexOutOfBoundsException {
        if (index < 0 || index >= pathText.length) {
            throw new IndexOutOfBoundsException("there is no such byte");
        }
        return pathText.bytes[index];
    }

    public int mount(int onto, int place, int volume)
            throws NoSuchElementException, IndexOutOfBoundsException {
        int row = rowWithPlace(onto, place);
        checkVolume(volume);
        past.keep(now);
        return changer.mountVolume(row, place, volume);
    }

    public int bind(int source, int top, int onto, int place) throws NoSuchElementException {
        int sourceRow = rowWithPlace(source, top);
        int row = rowWithPlace(onto, place);
        past.keep(now);
        return changer.bindPart(sourceRow, top, row, place);
    }

    public int move(int mount, int onto, int place) throws NoSuchElementException {
        int moved = rowOfMount(mount);
        int row = rowWithPlace(onto, place);
        past.keep(now);
        return changer.moveMount(moved, row, place);
    }

    public int unmount(int mount) throws NoSuchElementException {
        int row = rowOfMount(mount);
        past.keep(now);
        return changer.removeMount(row);
    }

    public int make(int mount, int kind) throws NoSuchElementException, IllegalArgumentException {
        int row = rowOfMount(mount);
        if (kind < PRIVATE_KIND || kind > SECRET_KIND) {
            throw new IllegalArgumentException("there is no such kind");
        }
        past.keep(now);
        return changer.makeKind(row, kind);
    }

    public int copySpace(int space, boolean isLocked) throws IndexOutOfBoundsException {
        checkSpace(space);
        past.keep(now);
        return changer.duplicateSpace(space, isLocked);
    }

    public int dropSpace() throws IllegalStateException {
        if (now.spaces <= 1) {
            throw new IllegalStateException("there is only one space");
        }
        past.keep(now);
        return changer.removeLastSpace();
    }

    public int undo() {
        if (past.size == 0) {
            return -1;
        }
        past.restore(now);
        return past.size;
    }

    public long checksum() {
        long sum = 0;
        for (int what = 0; what <= 8; what++) {
            sum = 31 * sum + now.countOf(what);
        }
        sum = sumOfVolumes(sum);
        for (int row = 0; row < now.rows; row++) {
            sum = sumOfMount(sum, row);
        }
        for (int space = 0; space < now.spaces; space++) {
            sum = 31 * sum + sight.survey(space);
        }
        return sum;
    }

    private long sumOfVolumes(long before) {
        long sum = before;
        for (int volume = 0; volume < now.volumes.size; volume++) {
            int size = now.volumes.sizeOf(volume);
            sum = 31 * sum + size;
            for (int directory = 0; directory < size; directory++) {
                sum = 31 * sum + now.volumes.outerOf(volume, directory);
            }
        }
        return sum;
    }

    private long sumOfMount(long before, int row) {
        long sum = 31 * before + now.number[row];
        for (int what = 0; what <= 8; what++) {
            sum = 31 * sum + now.fact(row, what);
        }
        following.gather(row);
        return 31 * sum + following.size;
    }

    /** The volumes and their directories. A name is held as a number, see Input.nameCode. */
    private static final class Volumes {
        private final int[] names = new int[MAX_VOLUMES];
        private final int[] sizes = new int[MAX_VOLUMES];
        private final int[] directoryNames = new int[MAX_VOLUMES * MAX_DIRECTORIES];
        private final int[] outers = new int[MAX_VOLUMES * MAX_DIRECTORIES];
        int size = 0;

        boolean isFull() {
            return size >= MAX_VOLUMES;
        }

        /** Adds a volume that has its root alone, if there is room for it. */
        void add(int name) {
            if (size < MAX_VOLUMES) {
                names[size] = name;
                sizes[size] = 0;
                size++;
                addDirectory(size - 1, NOTHING, 0);
            }
        }

        /** Adds a directory and tells its index, or NOTHING if there is no room for it. */
        int addDirectory(int volume, int outer, int name) {
            int directory = sizes[volume];
            if (directory >= MAX_DIRECTORIES) {
                return NOTHING;
            }
            directoryNames[volume * MAX_DIRECTORIES + directory] = name;
            outers[volume * MAX_DIRECTORIES + directory] = outer;
            sizes[volume]++;
            return directory;
        }

        int sizeOf(int volume) {
            return sizes[volume];
        }

        int outerOf(int volume, int directory) {
            return outers[volume * MAX_DIRECTORIES + directory];
        }

        int nameOf(int volume, int directory) {
            return directoryNames[volume * MAX_DIRECTORIES + directory];
        }

        int volumeNamed(int name) {
            for (int volume = 0; volume < size; volume++) {
                if (names[volume] == name) {
                    return volume;
                }
            }
            return NOTHING;
        }

        int directoryNamed(int volume, int outer, int name) {
            for (int directory = 1; directory < sizes[volume]; directory++) {
                int cell = volume * MAX_DIRECTORIES + directory;
                if (outers[cell] == outer && directoryNames[cell] == name) {
                    return directory;
                }
            }
            return NOTHING;
        }

        void takeOver(Volumes other) {
            size = other.size;
            System.arraycopy(other.names, 0, names, 0, names.length);
            System.arraycopy(other.sizes, 0, sizes, 0, sizes.length);
            System.arraycopy(other.directoryNames, 0, directoryNames, 0, directoryNames.length);
            System.arraycopy(other.outers, 0, outers, 0, outers.length);
        }
    }

    /**
     * All that can be undone: the volumes, and the mounts of all spaces, each in a row, in
     * ascending order of their numbers. A row that is handed to a method is one that there is.
     */
    private static final class Mounts {
        final Volumes volumes = new Volumes();
        final int[] number = new int[MAX_MOUNTS];
        final int[] space = new int[MAX_MOUNTS];
        final int[] volume = new int[MAX_MOUNTS];
        final int[] top = new int[MAX_MOUNTS];
        final int[] on = new int[MAX_MOUNTS];
        final int[] place = new int[MAX_MOUNTS];
        final int[] group = new int[MAX_MOUNTS];
        final int[] master = new int[MAX_MOUNTS];
        final int[] secret = new int[MAX_MOUNTS];
        final int[] locked = new int[MAX_MOUNTS];
        int rows = 0;
        int spaces = 0;
        int made = 0;
        int lastGroup = 0;

        /** Leaves one space with one mount, that of this volume, and begins all numbers anew. */
        void begin(int rootVolume) {
            rows = 0;
            spaces = 1;
            made = 0;
            lastGroup = 0;
            add(0, rootVolume, 0);
        }

        /** Adds a mount that is on no place yet; tells its row, or NOTHING if there is no room. */
        int add(int itsSpace, int itsVolume, int itsTop) {
            if (rows >= MAX_MOUNTS) {
                return NOTHING;
            }
            int row = rows;
            number[row] = made;
            space[row] = itsSpace;
            volume[row] = itsVolume;
            top[row] = itsTop;
            on[row] = NOTHING;
            place[row] = NOTHING;
            group[row] = 0;
            master[row] = 0;
            secret[row] = 0;
            locked[row] = 0;
            rows++;
            made++;
            return row;
        }

        void remove(int row) {
            rows--;
            for (int to = row; to < rows; to++) {
                copyRow(to + 1, to);
            }
        }

        private void copyRow(int from, int to) {
            number[to] = number[from];
            space[to] = space[from];
            volume[to] = volume[from];
            top[to] = top[from];
            on[to] = on[from];
            place[to] = place[from];
            group[to] = group[from];
            master[to] = master[from];
            secret[to] = secret[from];
            locked[to] = locked[from];
        }

        int newGroup() {
            lastGroup++;
            return lastGroup;
        }

        int rowOf(int mount) {
            for (int row = 0; row < rows; row++) {
                if (number[row] == mount) {
                    return row;
                }
            }
            return NOTHING;
        }

        /** The row of the mount on a place, or NOTHING. */
        int rowOn(int row, int directory) {
            for (int other = 0; other < rows; other++) {
                if (on[other] == number[row] && place[other] == directory) {
                    return other;
                }
            }
            return NOTHING;
        }

        /** The row of the mount on which a mount is, or NOTHING for a root. */
        int rowUnder(int row) {
            return on[row] < 0 ? NOTHING : rowOf(on[row]);
        }

        boolean hasMountOnIt(int row) {
            for (int other = 0; other < rows; other++) {
                if (on[other] == number[row]) {
                    return true;
                }
            }
            return false;
        }

        /** The row of the root of a space; row 0, which is always a root, for want of a space. */
        int rootRow(int ofSpace) {
            for (int row = 0; row < rows; row++) {
                if (space[row] == ofSpace && on[row] < 0) {
                    return row;
                }
            }
            return 0;
        }

        /** Whether there is this directory and it is in the mount. */
        boolean holds(int row, int directory) {
            int inside = directory < volumes.sizeOf(volume[row]) ? directory : NOTHING;
            for (int n = 0; n < MAX_DIRECTORIES && inside >= 0; n++) {
                if (inside == top[row]) {
                    return true;
                }
                inside = volumes.outerOf(volume[row], inside);
            }
            return false;
        }

        int countOf(int what) {
            switch (what) {
                case 0: return volumes.size;
                case 1: return spaces;
                case 2: return rows;
                case 3: return timesFilled(group);
                case 4: return timesFilled(master);
                case 5: return timesFilled(secret);
                case 6: return timesFilled(locked);
                case 7: return made;
                default: return lastGroup;
            }
        }

        private int timesFilled(int[] column) {
            int times = 0;
            for (int row = 0; row < rows; row++) {
                if (column[row] != 0) {
                    times++;
                }
            }
            return times;
        }

        int fact(int row, int what) {
            switch (what) {
                case 0: return space[row];
                case 1: return volume[row];
                case 2: return top[row];
                case 3: return on[row];
                case 4: return place[row];
                case 5: return group[row];
                case 6: return master[row];
                case 7: return secret[row];
                default: return locked[row];
            }
        }

        void takeOver(Mounts other) {
            volumes.takeOver(other.volumes);
            rows = other.rows;
            spaces = other.spaces;
            made = other.made;
            lastGroup = other.lastGroup;
            System.arraycopy(other.number, 0, number, 0, rows);
            System.arraycopy(other.space, 0, space, 0, rows);
            System.arraycopy(other.volume, 0, volume, 0, rows);
            System.arraycopy(other.top, 0, top, 0, rows);
            System.arraycopy(other.on, 0, on, 0, rows);
            System.arraycopy(other.place, 0, place, 0, rows);
            System.arraycopy(other.group, 0, group, 0, rows);
            System.arraycopy(other.master, 0, master, 0, rows);
            System.arraycopy(other.secret, 0, secret, 0, rows);
            System.arraycopy(other.locked, 0, locked, 0, rows);
        }
    }

    /**
     * The followers of a mount in ascending order, with their groups and masters as they were when
     * they were gathered: a change that is under way goes by these.
     */
    private static final class Followers {
        private final Mounts mounts;
        private final boolean[] isReached = new boolean[MAX_MOUNTS];
        private final int[] reached = new int[MAX_MOUNTS];
        private int reachedSize = 0;
        final int[] number = new int[MAX_MOUNTS];
        final int[] group = new int[MAX_MOUNTS];
        final int[] master = new int[MAX_MOUNTS];
        int size = 0;

        Followers(Mounts mounts) {
            this.mounts = mounts;
        }

        /** Gathers the followers of a mount; none if it is not shared. */
        void gather(int row) {
            size = 0;
            if (mounts.group[row] == 0) {
                return;
            }
            for (int other = 0; other < mounts.rows; other++) {
                isReached[other] = false;
            }
            reachedSize = 0;
            reachFrom(mounts.group[row]);
            for (int next = 0; next < reachedSize && next < MAX_MOUNTS; next++) {
                reachFrom(mounts.group[reached[next]]);
            }
            for (int other = 0; other < mounts.rows; other++) {
                if (isReached[other]) {
                    note(other);
                }
            }
        }

        private void reachFrom(int fromGroup) {
            if (fromGroup == 0) {
                return;
            }
            for (int other = 0; other < mounts.rows && reachedSize < MAX_MOUNTS; other++) {
                boolean follows = mounts.group[other] == fromGroup
                    || mounts.master[other] == fromGroup;
                if (follows && !isReached[other]) {
                    isReached[other] = true;
                    reached[reachedSize] = other;
                    reachedSize++;
                }
            }
        }

        private void note(int row) {
            if (size < MAX_MOUNTS) {
                number[size] = mounts.number[row];
                group[size] = mounts.group[row];
                master[size] = mounts.master[row];
                size++;
            }
        }

        /** The smallest group of the followers that is greater than this one; 0 for none. */
        int nextGroup(int previous) {
            int next = 0;
            for (int i = 0; i < size; i++) {
                if (group[i] > previous && (next == 0 || group[i] < next)) {
                    next = group[i];
                }
            }
            return next;
        }
    }

    /** Does what the changing methods ask for, or refuses it. */
    private static final class Changer {
        private final Mounts mounts;
        private final Followers followers;
        private final int[] oldGroups = new int[MAX_MOUNTS];
        private final int[] copyGroups = new int[MAX_MOUNTS];
        private int oldGroupsSize = 0;
        private final int[] copyNumbers = new int[MAX_MOUNTS];

        Changer(Mounts mounts) {
            this.mounts = mounts;
            this.followers = new Followers(mounts);
        }

        int mountVolume(int onto, int place, int volume) {
            if (mounts.rowOn(onto, place) >= 0) {
                return TAKEN;
            }
            int more = 1 + copiesFor(onto, place, NOTHING);
            if (mounts.rows + more > MAX_MOUNTS) {
                return FULL;
            }
            int added = mounts.add(mounts.space[onto], volume, 0);
            if (added >= 0) {
                put(added, onto, place);
            }
            return more;
        }

        int bindPart(int source, int top, int onto, int place) {
            if (mounts.rowOn(onto, place) >= 0) {
                return TAKEN;
            }
            if (mounts.secret[source] != 0) {
                return SECRET;
            }
            if (mounts.space[source] != mounts.space[onto]) {
                return ELSEWHERE;
            }
            int more = 1 + copiesFor(onto, place, NOTHING);
            if (mounts.rows + more > MAX_MOUNTS) {
                return FULL;
            }
            int added = mounts.add(mounts.space[onto], mounts.volume[source], top);
            if (added >= 0) {
                mounts.group[added] = mounts.group[source];
                mounts.master[added] = mounts.master[source];
                put(added, onto, place);
            }
            return more;
        }

        int moveMount(int moved, int onto, int place) {
            int refusal = refusalToMove(moved, onto, place);
            if (refusal != 0) {
                return refusal;
            }
            int more = copiesFor(onto, place, moved);
            if (mounts.rows + more > MAX_MOUNTS) {
                return FULL;
            }
            put(moved, onto, place);
            return more;
        }

        /** The first refusal before FULL that applies to a move; 0 for none. */
        private int refusalToMove(int moved, int onto, int place) {
            boolean isOntoShared = mounts.group[onto] != 0;
            if (mounts.rowOn(onto, place) >= 0) {
                return TAKEN;
            }
            if (mounts.secret[moved] != 0 && isOntoShared) {
                return SECRET;
            }
            if (mounts.locked[moved] != 0) {
                return LOCKED;
            }
            int under = mounts.rowUnder(moved);
            if (under < 0) {
                return ROOT;
            }
            if (isOntoShared && mounts.hasMountOnIt(moved)) {
                return BUSY;
            }
            if (mounts.group[under] != 0) {
                return SHARED;
            }
            boolean isElsewhere = mounts.space[moved] != mounts.space[onto]
                || isOrIsUnder(onto, moved);
            return isElsewhere ? ELSEWHERE : 0;
        }

        /** Whether a mount is this other one or under it. */
        private boolean isOrIsUnder(int row, int other) {
            int up = row;
            for (int n = 0; n < MAX_MOUNTS && up >= 0; n++) {
                if (up == other) {
                    return true;
                }
                up = mounts.rowUnder(up);
            }
            return false;
        }

        /**
         * How many copies will be made when a mount is put on this place; the place that a moved
         * one leaves is free for a copy. The followers stay gathered for put.
         */
        int copiesFor(int onto, int place, int moved) {
            followers.gather(onto);
            int copies = 0;
            for (int i = 0; i < followers.size; i++) {
                int follower = mounts.rowOf(followers.number[i]);
                if (follower >= 0 && follower != onto && mounts.holds(follower, place)) {
                    int there = mounts.rowOn(follower, place);
                    copies += there < 0 || there == moved ? 1 : 0;
                }
            }
            return copies;
        }

        /** Puts a mount on a place, whose mount's followers were gathered before any change. */
        private void put(int row, int onto, int place) {
            mounts.on[row] = mounts.number[onto];
            mounts.place[row] = place;
            int ontoGroup = mounts.group[onto];
            if (ontoGroup == 0) {
                return;
            }
            if (mounts.group[row] == 0) {
                mounts.group[row] = mounts.newGroup();
            }
            nameCopyGroups(ontoGroup, mounts.group[row]);
            for (int i = 0; i < followers.size; i++) {
                int follower = mounts.rowOf(followers.number[i]);
                if (follower >= 0 && follower != onto && mounts.holds(follower, place)
                        && mounts.rowOn(follower, place) < 0) {
                    copyOnto(row, follower, i, followers.group[i] == ontoGroup);
                }
            }
        }

        private void nameCopyGroups(int ontoGroup, int itsGroup) {
            oldGroupsSize = 0;
            int old = followers.nextGroup(0);
            while (old != 0 && oldGroupsSize < MAX_MOUNTS) {
                oldGroups[oldGroupsSize] = old;
                copyGroups[oldGroupsSize] = old == ontoGroup ? itsGroup : mounts.newGroup();
                oldGroupsSize++;
                old = followers.nextGroup(old);
            }
        }

        /** The copy's group of an old group; 0 for none. */
        private int copyGroupOf(int old) {
            for (int i = 0; i < oldGroupsSize; i++) {
                if (oldGroups[i] == old) {
                    return copyGroups[i];
                }
            }
            return 0;
        }

        /** Makes the copy of a mount that was put on a place, on the same place of a follower. */
        private void copyOnto(int row, int follower, int i, boolean isInGroup) {
            int copy = mounts.add(mounts.space[follower], mounts.volume[row], mounts.top[row]);
            if (copy < 0) {
                return;
            }
            mounts.on[copy] = mounts.number[follower];
            mounts.place[copy] = mounts.place[row];
            if (isInGroup) {
                mounts.group[copy] = mounts.group[row];
                mounts.master[copy] = mounts.master[row];
            } else {
                mounts.group[copy] = copyGroupOf(followers.group[i]);
                mounts.master[copy] = copyGroupOf(followers.master[i]);
            }
        }

        int removeMount(int row) {
            if (mounts.locked[row] != 0) {
                return LOCKED;
            }
            int under = mounts.rowUnder(row);
            if (under < 0) {
                return ROOT;
            }
            if (mounts.hasMountOnIt(row)) {
                return BUSY;
            }
            followers.gather(under);
            int number = mounts.number[under];
            int place = mounts.place[row];
            int volume = mounts.volume[row];
            int top = mounts.top[row];
            mounts.remove(row);
            int removed = 1;
            for (int i = 0; i < followers.size; i++) {
                if (followers.number[i] != number) {
                    removed += removeFrom(followers.number[i], place, volume, top);
                }
            }
            return removed;
        }

        /** Removes what a removed mount had as its like on a follower; tells how many that are. */
        private int removeFrom(int follower, int place, int volume, int top) {
            int row = mounts.rowOf(follower);
            if (row < 0) {
                return 0;
            }
            int there = mounts.rowOn(row, place);
            boolean isAlike = there >= 0 && mounts.volume[there] == volume
                && mounts.top[there] == top;
            if (!isAlike || mounts.locked[there] != 0 || mounts.hasMountOnIt(there)) {
                return 0;
            }
            mounts.remove(there);
            return 1;
        }

        int makeKind(int row, int kind) {
            int group = mounts.group[row];
            if (kind == SHARED_KIND) {
                mounts.group[row] = group == 0 ? mounts.newGroup() : group;
            } else if (kind == SLAVE_KIND) {
                if (group != 0 && isInOtherMount(group, row)) {
                    mounts.master[row] = group;
                }
                mounts.group[row] = 0;
            } else {
                mounts.group[row] = 0;
                mounts.master[row] = 0;
            }
            mounts.secret[row] = kind == SECRET_KIND ? 1 : 0;
            return mounts.group[row];
        }

        private boolean isInOtherMount(int group, int row) {
            for (int other = 0; other < mounts.rows; other++) {
                if (other != row && mounts.group[other] == group) {
                    return true;
                }
            }
            return false;
        }

        int duplicateSpace(int space, boolean isLocked) {
            int originals = mounts.rows;
            int more = 0;
            for (int row = 0; row < originals; row++) {
                more += mounts.space[row] == space ? 1 : 0;
            }
            if (mounts.spaces >= MAX_SPACES || originals + more > MAX_MOUNTS) {
                return FULL;
            }
            int newSpace = mounts.spaces;
            mounts.spaces++;
            for (int row = 0; row < originals; row++) {
                if (mounts.space[row] == space) {
                    duplicateMount(row, newSpace, isLocked);
                }
            }
            // Only now each copy's number is known: a mount may be on one with a greater number.
            for (int row = originals; row < mounts.rows; row++) {
                int original = mounts.rowOf(mounts.on[row]);
                mounts.on[row] = original < 0 ? NOTHING : copyNumbers[original];
            }
            return newSpace;
        }

        /** Makes the copy of a mount, which is still on the mount on which the original is. */
        private void duplicateMount(int row, int newSpace, boolean isLocked) {
            int copy = mounts.add(newSpace, mounts.volume[row], mounts.top[row]);
            if (copy < 0) {
                return;
            }
            copyNumbers[row] = mounts.number[copy];
            mounts.on[copy] = mounts.on[row];
            mounts.place[copy] = mounts.place[row];
            mounts.secret[copy] = mounts.secret[row];
            mounts.locked[copy] = isLocked ? 1 : mounts.locked[row];
            boolean isSlaveOfGroup = isLocked && mounts.group[row] != 0;
            mounts.group[copy] = isLocked ? 0 : mounts.group[row];
            mounts.master[copy] = isSlaveOfGroup ? mounts.group[row] : mounts.master[row];
        }

        int removeLastSpace() {
            mounts.spaces--;
            for (int row = mounts.rows - 1; row >= 0; row--) {
                if (mounts.space[row] == mounts.spaces) {
                    mounts.remove(row);
                }
            }
            return mounts.rows;
        }
    }

    /** Goes along a path: the row and the directory are the present place. */
    private static final class Walker {
        private final Mounts mounts;
        int row = 0;
        int directory = 0;

        Walker(Mounts mounts) {
            this.mounts = mounts;
        }

        void arriveAt(int placeRow, int placeDirectory) {
            row = placeRow;
            directory = placeDirectory;
            int there = mounts.rowOn(row, directory);
            for (int n = 0; n < MAX_MOUNTS && there >= 0; n++) {
                row = there;
                directory = mounts.top[there];
                there = mounts.rowOn(row, directory);
            }
        }

        void arriveInSpace(int space) {
            int root = mounts.rootRow(space);
            arriveAt(root, mounts.top[root]);
        }

        /** Reads a path and goes along it in a space; false if there is an error. */
        boolean follow(Input input, int space) {
            if (!input.takeSign('/')) {
                return false;
            }
            arriveInSpace(space);
            if (input.kind != Input.WORD) {
                return true;
            }
            for (int n = 0; n < MAX_INPUT; n++) {
                if (!takeStep(input)) {
                    return false;
                }
                if (input.kind != '/') {
                    return true;
                }
                input.advance();
            }
            return input.fail(SYNTAX_ERROR);
        }

        private boolean takeStep(Input input) {
            int name = input.nameCode();
            if (name == 0) {
                return input.fail(SYNTAX_ERROR);
            }
            int inner = mounts.volumes.directoryNamed(mounts.volume[row], directory, name);
            if (inner < 0) {
                return input.fail(UNKNOWN);
            }
            arriveAt(row, inner);
            input.advance();
            return true;
        }
    }

    /** The places of a space that can be seen. */
    private static final class Sight {
        private final Mounts mounts;
        private final Walker walker;
        private final int[] rows = new int[MAX_PLACES];
        private final int[] directories = new int[MAX_PLACES];
        private int size = 0;

        Sight(Mounts mounts) {
            this.mounts = mounts;
            this.walker = new Walker(mounts);
        }

        /** Finds the places of a space that can be seen, and tells how many they are. */
        int survey(int space) {
            size = 0;
            walker.arriveInSpace(space);
            note();
            for (int next = 0; next < size && next < MAX_PLACES; next++) {
                lookInto(rows[next], directories[next]);
            }
            return size;
        }

        // Two paths never lead to the same place, as each mount is on one place alone.
        private void note() {
            if (size < MAX_PLACES) {
                rows[size] = walker.row;
                directories[size] = walker.directory;
                size++;
            }
        }

        private void lookInto(int row, int directory) {
            int volume = mounts.volume[row];
            for (int inner = directory + 1; inner < mounts.volumes.sizeOf(volume); inner++) {
                if (mounts.volumes.outerOf(volume, inner) == directory) {
                    walker.arriveAt(row, inner);
                    note();
                }
            }
        }

        /** Whether a place is one of those that the latest survey found. */
        boolean shows(int row, int directory) {
            for (int i = 0; i < size; i++) {
                if (rows[i] == row && directories[i] == directory) {
                    return true;
                }
            }
            return false;
        }
    }

    /** The text of a path that leads to the place of a mount. */
    private static final class PathText {
        private final Mounts mounts;
        private final int[] chain = new int[MAX_MOUNTS];
        private final int[] steps = new int[MAX_DIRECTORIES];
        final byte[] bytes = new byte[MAX_PLACES * (MAX_NAME + 1)];
        int length = 0;

        PathText(Mounts mounts) {
            this.mounts = mounts;
        }

        int write(int row) {
            length = 0;
            int size = 0;
            int up = row;
            while (up >= 0 && size < MAX_MOUNTS) {
                chain[size] = up;
                size++;
                up = mounts.rowUnder(up);
            }
            for (int i = size - 1; i >= 0; i--) {
                writeWayTo(chain[i]);
            }
            if (length == 0) {
                writeByte('/');
            }
            return length;
        }

        /** Writes the way to the place of a mount from the top of the mount on which it is. */
        private void writeWayTo(int row) {
            int under = mounts.rowUnder(row);
            if (under < 0) {
                return;
            }
            int volume = mounts.volume[under];
            int size = 0;
            int directory = mounts.place[row];
            while (directory > mounts.top[under] && size < MAX_DIRECTORIES) {
                steps[size] = mounts.volumes.nameOf(volume, directory);
                size++;
                directory = mounts.volumes.outerOf(volume, directory);
            }
            for (int i = size - 1; i >= 0; i--) {
                writeByte('/');
                writeName(steps[i]);
            }
        }

        private void writeName(int code) {
            for (int shift = Input.LETTER_BITS * (MAX_NAME - 1); shift >= 0;
                    shift -= Input.LETTER_BITS) {
                int letter = (code >> shift) & Input.LETTER_MASK;
                if (letter != 0) {
                    writeByte('a' + letter - 1);
                }
            }
        }

        private void writeByte(int sign) {
            if (length < bytes.length) {
                bytes[length] = (byte) sign;
                length++;
            }
        }
    }

    /** The input buffer, and the tokens of a text that is read from it. */
    private static final class Input {
        static final int END = -1;
        static final int WORD = -2;
        static final int LETTER_BITS = 5;
        static final int LETTER_MASK = 31;

        private final byte[] bytes = new byte[MAX_INPUT];
        int size = 0;

        // The present token: END, WORD (a run of letters), or a sign, which is its own kind.
        int kind = END;
        private int start = 0;
        private int position = 0;
        private int textLength = 0;
        int error = 0;
        int errorAt = -1;

        boolean hasRoom(int more) {
            return size + more <= MAX_INPUT;
        }

        void putWord(int word) {
            for (int shift = 24; shift >= 0 && size < MAX_INPUT; shift -= 8) {
                bytes[size] = (byte) (word >> shift);
                size++;
            }
        }

        /** Begins to read a text of the first bytes; the buffer counts as empty from then on. */
        void open(int length) {
            size = 0;
            textLength = Math.max(0, Math.min(length, MAX_INPUT));
            position = 0;
            error = 0;
            errorAt = -1;
            advance();
        }

        /** Goes to the next token. */
        void advance() {
            while (position < textLength && bytes[position] == ' ') {
                position++;
            }
            start = position;
            if (position >= textLength) {
                kind = END;
            } else if (isLetter(bytes[position])) {
                kind = WORD;
                while (position < textLength && isLetter(bytes[position])) {
                    position++;
                }
            } else {
                kind = bytes[position] & 255;
                position++;
            }
        }

        private boolean isLetter(byte sign) {
            return sign >= 'a' && sign <= 'z';
        }

        /** Notes an error at the present token. */
        boolean fail(int code) {
            error = code;
            errorAt = start;
            return false;
        }

        boolean takeEnd() {
            return kind == END || fail(SYNTAX_ERROR);
        }

        boolean takeSign(int sign) {
            if (kind != sign) {
                return fail(SYNTAX_ERROR);
            }
            advance();
            return true;
        }

        boolean takeWord(String word) {
            if (!isWord(word)) {
                return fail(SYNTAX_ERROR);
            }
            advance();
            return true;
        }

        boolean isWord(String word) {
            if (kind != WORD || position - start != word.length()) {
                return false;
            }
            for (int i = 0; i < word.length() && start + i < MAX_INPUT; i++) {
                if (bytes[start + i] != word.charAt(i)) {
                    return false;
                }
            }
            return true;
        }

        /** The present token as a name, five bits a letter; 0 if it can't be a name. */
        int nameCode() {
            if (kind != WORD || position - start > MAX_NAME) {
                return 0;
            }
            int code = 0;
            for (int i = start; i < position && i < MAX_INPUT; i++) {
                code = (code << LETTER_BITS) | (bytes[i] - 'a' + 1);
            }
            return code;
        }
    }

    /** Reads a setup text and does what it tells, on mounts of its own. */
    private static final class Setup {
        private final Input input;
        private final Mounts mounts;
        private final Volumes volumes;
        private final Changer changer;
        private final Walker walker;

        Setup(Input input, Mounts mounts) {
            this.input = input;
            this.mounts = mounts;
            this.volumes = mounts.volumes;
            this.changer = new Changer(mounts);
            this.walker = new Walker(mounts);
        }

        /** Reads all that comes before the statements; false if there is an error. */
        boolean readHead() {
            volumes.size = 0;
            return input.takeWord("spaces") && input.takeSign(';') && readVolumes() && readRoot();
        }

        private boolean readVolumes() {
            for (int n = 0; n <= MAX_VOLUMES; n++) {
                if (n > 0 && input.isWord("root")) {
                    return true;
                }
                if (!input.isWord("volume")) {
                    return input.fail(SYNTAX_ERROR);
                }
                if (volumes.isFull()) {
                    return input.fail(TOO_MANY);
                }
                input.advance();
                if (!readVolume()) {
                    return false;
                }
            }
            return input.fail(TOO_MANY);
        }

        private boolean readVolume() {
            int name = input.nameCode();
            if (name == 0) {
                return input.fail(SYNTAX_ERROR);
            }
            if (volumes.volumeNamed(name) >= 0) {
                return input.fail(DUPLICATE);
            }
            volumes.add(name);
            input.advance();
            return readInside(volumes.size - 1, 0, 0) && input.takeSign(';');
        }

        /** Reads the directories in another one, if there are any, inside depth parentheses. */
        private boolean readInside(int volume, int outer, int depth) {
            if (input.kind != '(') {
                return true;
            }
            if (depth >= MAX_NESTING) {
                return input.fail(TOO_MANY);
            }
            input.advance();
            for (int n = 0; n < MAX_DIRECTORIES; n++) {
                if (!readDirectory(volume, outer, depth + 1)) {
                    return false;
                }
                if (input.kind != ',') {
                    return input.takeSign(')');
                }
                input.advance();
            }
            return input.fail(TOO_MANY);
        }

        private boolean readDirectory(int volume, int outer, int depth) {
            int name = input.nameCode();
            if (name == 0) {
                return input.fail(SYNTAX_ERROR);
            }
            if (volumes.directoryNamed(volume, outer, name) >= 0) {
                return input.fail(DUPLICATE);
            }
            int directory = volumes.addDirectory(volume, outer, name);
            if (directory < 0) {
                return input.fail(TOO_MANY);
            }
            input.advance();
            return readInside(volume, directory, depth);
        }

        private boolean readRoot() {
            input.advance();
            int volume = readVolumeName();
            if (volume < 0) {
                return false;
            }
            mounts.begin(volume);
            return input.takeSign(';');
        }

        /** Reads the name of a volume and tells its index, or NOTHING if there is an error. */
        private int readVolumeName() {
            int name = input.nameCode();
            int volume = name == 0 ? NOTHING : volumes.volumeNamed(name);
            if (volume < 0) {
                input.fail(name == 0 ? SYNTAX_ERROR : UNKNOWN);
                return NOTHING;
            }
            input.advance();
            return volume;
        }

        /** Reads the statements and does them; false if there is an error. */
        boolean readStatements() {
            for (int n = 0; n < MAX_INPUT && input.kind != Input.END; n++) {
                boolean isGood = input.isWord("mount") ? readMount()
                    : input.isWord("bind") ? readBind() : readMake();
                if (!isGood) {
                    return false;
                }
            }
            return input.takeEnd();
        }

        private boolean readMount() {
            input.advance();
            int volume = readVolumeName();
            if (volume < 0 || !walker.follow(input, 0)) {
                return false;
            }
            return takeAnswer(changer.mountVolume(walker.row, walker.directory, volume));
        }

        private boolean readBind() {
            input.advance();
            if (!walker.follow(input, 0)) {
                return false;
            }
            int source = walker.row;
            int top = walker.directory;
            if (!input.takeSign('>') || !walker.follow(input, 0)) {
                return false;
            }
            return takeAnswer(changer.bindPart(source, top, walker.row, walker.directory));
        }

        /** Reads the semicolon behind a statement that was done with this answer. */
        private boolean takeAnswer(int answer) {
            if (input.kind == ';' && answer < 0) {
                return input.fail(IMPOSSIBLE);
            }
            return input.takeSign(';');
        }

        private boolean readMake() {
            if (!input.takeWord("make")) {
                return false;
            }
            int kind = kindOfWord();
            if (kind < 0) {
                return input.fail(SYNTAX_ERROR);
            }
            input.advance();
            if (!walker.follow(input, 0)) {
                return false;
            }
            changer.makeKind(walker.row, kind);
            return input.takeSign(';');
        }

        private int kindOfWord() {
            if (input.isWord("private")) {
                return PRIVATE_KIND;
            }
            if (input.isWord("shared")) {
                return SHARED_KIND;
            }
            if (input.isWord("slave")) {
                return SLAVE_KIND;
            }
            return input.isWord("secret") ? SECRET_KIND : NOTHING;
        }
    }

    /** The states before the latest changes. */
    private static final class Past {
        private final Mounts[] states = new Mounts[MAX_UNDO];
        private int oldest = 0;
        int size = 0;

        Past() {
            for (int i = 0; i < MAX_UNDO; i++) {
                states[i] = new Mounts();
            }
        }

        /** Keeps the state before a change; the oldest one makes room if there is none. */
        void keep(Mounts mounts) {
            Mounts state = states[(oldest + size) % MAX_UNDO];
            if (state != null) {
                state.takeOver(mounts);
            }
            if (size < MAX_UNDO) {
                size++;
            } else {
                oldest = (oldest + 1) % MAX_UNDO;
            }
        }

        /** Brings the latest state back that is kept, of which there must be one. */
        void restore(Mounts mounts) {
            size--;
            Mounts state = states[(oldest + size) % MAX_UNDO];
            if (state != null) {
                mounts.takeOver(state);
            }
        }
    }
}
