import java.util.ArrayList;
import java.util.Arrays;
import java.util.HashSet;
import java.util.LinkedHashMap;
import java.util.List;
import java.util.Map;
import java.util.NoSuchElementException;
import java.util.Objects;
import java.util.Set;
import java.util.TreeMap;
import java.util.TreeSet;

/**
 * The document once more, in the Java library's own terms and as slow as it likes, so that the
 * program's answers can be compared with those of a second reading.
 */
final class Model {
    static final class Dir {
        final String name;
        final Dir outer;
        final int index;
        final Map<String, Dir> inner = new LinkedHashMap<>();

        Dir(String name, Dir outer, int index) {
            this.name = name;
            this.outer = outer;
            this.index = index;
        }

        boolean isInOrBelow(Dir other) {
            return this == other || outer != null && outer.isInOrBelow(other);
        }
    }

    static final class Vol {
        final String name;
        final List<Dir> dirs = new ArrayList<>();

        Vol(String name) {
            this.name = name;
            dirs.add(new Dir("", null, 0));
        }
    }

    record Place(int mount, Dir dir) {
    }

    static final class M {
        int space;
        Vol vol;
        Dir top;
        Place place;
        int group;
        int master;
        boolean secret;
        boolean locked;

        M(int space, Vol vol, Dir top) {
            this.space = space;
            this.vol = vol;
            this.top = top;
        }

        M copy() {
            M m = new M(space, vol, top);
            m.place = place;
            m.group = group;
            m.master = master;
            m.secret = secret;
            m.locked = locked;
            return m;
        }
    }

    static final class World {
        List<Vol> vols = new ArrayList<>();
        TreeMap<Integer, M> mounts = new TreeMap<>();
        int spaces = 1;
        int made = 0;
        int lastGroup = 0;

        World copy() {
            World w = new World();
            w.vols = vols;
            mounts.forEach((n, m) -> w.mounts.put(n, m.copy()));
            w.spaces = spaces;
            w.made = made;
            w.lastGroup = lastGroup;
            return w;
        }

        int add(M m) {
            mounts.put(made, m);
            return made++;
        }

        Integer on(int mount, Dir dir) {
            for (Map.Entry<Integer, M> e : mounts.entrySet()) {
                if (new Place(mount, dir).equals(e.getValue().place)) {
                    return e.getKey();
                }
            }
            return null;
        }

        boolean busy(int mount) {
            return mounts.values().stream().anyMatch(m -> m.place != null
                && m.place.mount() == mount);
        }

        int root(int space) {
            return mounts.entrySet().stream().filter(e -> e.getValue().space == space
                && e.getValue().place == null).findFirst().orElseThrow().getKey();
        }

        TreeSet<Integer> followers(int mount) {
            TreeSet<Integer> set = new TreeSet<>();
            if (mounts.get(mount).group == 0) {
                return set;
            }
            set.add(mount);
            for (int size = 0; size != set.size();) {
                size = set.size();
                Set<Integer> groups = new HashSet<>();
                for (int n : set) {
                    if (mounts.get(n).group != 0) {
                        groups.add(mounts.get(n).group);
                    }
                }
                mounts.forEach((n, m) -> {
                    if (groups.contains(m.group) || groups.contains(m.master)) {
                        set.add(n);
                    }
                });
            }
            return set;
        }

        /** Puts x on the place, going by the world as it was before; tells how many copies. */
        int put(int x, int m, Dir d, World before) {
            M put = mounts.get(x);
            put.place = new Place(m, d);
            int mGroup = before.mounts.get(m).group;
            if (mGroup == 0) {
                return 0;
            }
            if (put.group == 0) {
                put.group = ++lastGroup;
            }
            TreeSet<Integer> followers = before.followers(m);
            TreeMap<Integer, Integer> copyGroups = new TreeMap<>();
            for (int f : followers) {
                if (before.mounts.get(f).group != 0) {
                    copyGroups.put(before.mounts.get(f).group, 0);
                }
            }
            copyGroups.replaceAll((old, none) -> old == mGroup ? put.group : ++lastGroup);
            int copies = 0;
            for (int f : followers) {
                M was = before.mounts.get(f);
                if (f == m || was.vol != mounts.get(m).vol || !d.isInOrBelow(was.top)
                        || on(f, d) != null) {
                    continue;
                }
                M copy = new M(was.space, put.vol, put.top);
                copy.place = new Place(f, d);
                copy.group = was.group == mGroup ? put.group
                    : was.group == 0 ? 0 : copyGroups.get(was.group);
                copy.master = was.group == mGroup ? put.master : copyGroups.get(was.master);
                add(copy);
                copies++;
            }
            return copies;
        }

        boolean under(int mount, int other) {
            Place place = mounts.get(mount).place;
            return place != null && (place.mount() == other || under(place.mount(), other));
        }

        Place settle(Place place) {
            Integer there = on(place.mount(), place.dir());
            return there == null ? place : settle(new Place(there, mounts.get(there).top));
        }

        Place start(int space) {
            return settle(new Place(root(space), mounts.get(root(space)).top));
        }

        Set<Place> seen(int space) {
            Set<Place> set = new HashSet<>();
            see(start(space), set);
            return set;
        }

        private void see(Place place, Set<Place> set) {
            if (set.add(place)) {
                for (Dir inner : place.dir().inner.values()) {
                    see(settle(new Place(place.mount(), inner)), set);
                }
            }
        }
    }

    World now = new World();
    private final List<World> past = new ArrayList<>();
    private byte[] buffer = new byte[0];
    private int errorOffset = -1;
    private String pathText = "";

    Model() {
        now.vols.add(new Vol(""));
        now.add(new M(0, now.vols.get(0), now.vols.get(0).dirs.get(0)));
    }

    // --- the calls -----------------------------------------------------------------------------

    int append(int... words) {
        if (buffer.length + 20 > 600) {
            return -1;
        }
        byte[] longer = Arrays.copyOf(buffer, buffer.length + 20);
        for (int i = 0; i < 20; i++) {
            longer[buffer.length + i] = (byte) (words[i / 4] >>> 8 * (3 - i % 4));
        }
        buffer = longer;
        return buffer.length;
    }

    int load(int length) {
        byte[] text = taken(length);
        try {
            World world = new SetupText(text).read();
            change();
            now = world;
            errorOffset = -1;
            return now.mounts.size();
        } catch (TextError e) {
            errorOffset = e.offset;
            return e.code;
        }
    }

    private byte[] taken(int length) {
        if (length < 0 || length > buffer.length) {
            throw new IllegalArgumentException();
        }
        byte[] text = Arrays.copyOf(buffer, length);
        buffer = new byte[0];
        return text;
    }

    int errorOffset() {
        return errorOffset;
    }

    int count(int what) {
        java.util.Collection<M> all = now.mounts.values();
        switch (what) {
            case 0: return now.vols.size();
            case 1: return now.spaces;
            case 2: return all.size();
            case 3: return (int) all.stream().filter(m -> m.group > 0).count();
            case 4: return (int) all.stream().filter(m -> m.master > 0).count();
            case 5: return (int) all.stream().filter(m -> m.secret).count();
            case 6: return (int) all.stream().filter(m -> m.locked).count();
            case 7: return now.made;
            case 8: return now.lastGroup;
            default: throw new IllegalArgumentException();
        }
    }

    int directories(int volume) {
        return now.vols.get(Objects.checkIndex(volume, now.vols.size())).dirs.size();
    }

    int outer(int volume, int directory) {
        List<Dir> dirs = now.vols.get(Objects.checkIndex(volume, now.vols.size())).dirs;
        Dir outer = dirs.get(Objects.checkIndex(directory, dirs.size())).outer;
        return outer == null ? -1 : outer.index;
    }

    private M known(int mount) {
        if (!now.mounts.containsKey(mount)) {
            throw new NoSuchElementException();
        }
        return now.mounts.get(mount);
    }

    private Dir known(int mount, int directory) {
        M m = known(mount);
        if (directory < 0 || directory >= m.vol.dirs.size()
                || !m.vol.dirs.get(directory).isInOrBelow(m.top)) {
            throw new NoSuchElementException();
        }
        return m.vol.dirs.get(directory);
    }

    int told(int mount, int what) {
        M m = known(mount);
        switch (what) {
            case 0: return m.space;
            case 1: return now.vols.indexOf(m.vol);
            case 2: return m.top.index;
            case 3: return m.place == null ? -1 : m.place.mount();
            case 4: return m.place == null ? -1 : m.place.dir().index;
            case 5: return m.group;
            case 6: return m.master;
            case 7: return m.secret ? 1 : 0;
            case 8: return m.locked ? 1 : 0;
            default: throw new IllegalArgumentException();
        }
    }

    int mountAt(int index) {
        return new ArrayList<>(now.mounts.keySet())
            .get(Objects.checkIndex(index, now.mounts.size()));
    }

    int mountOn(int mount, int directory) {
        Integer there = now.on(mount, known(mount, directory));
        return there == null ? -1 : there;
    }

    int look(int space, int length) {
        Objects.checkIndex(space, now.spaces);
        byte[] text = taken(length);
        try {
            Tokens tokens = new Tokens(text);
            Place place = tokens.path(now, space);
            tokens.need(tokens.is(""));
            errorOffset = -1;
            return 100 * place.mount() + place.dir().index;
        } catch (TextError e) {
            errorOffset = e.offset;
            return e.code;
        }
    }

    int seen(int space) {
        return now.seen(Objects.checkIndex(space, now.spaces)).size();
    }

    boolean isSeen(int mount, int directory) {
        Dir dir = known(mount, directory);
        return now.seen(now.mounts.get(mount).space).contains(new Place(mount, dir));
    }

    int followers(int mount) {
        known(mount);
        return now.followers(mount).size();
    }

    int wouldMake(int mount, int directory) {
        Dir dir = known(mount, directory);
        if (now.on(mount, dir) != null) {
            return 0;
        }
        World world = now.copy();
        Vol vol = world.vols.get(0);
        return 1 + world.put(world.add(new M(0, vol, vol.dirs.get(0))), mount, dir, now);
    }

    int path(int mount) {
        known(mount);
        pathText = way(mount);
        if (pathText.isEmpty()) {
            pathText = "/";
        }
        return pathText.length();
    }

    private String way(int mount) {
        Place place = now.mounts.get(mount).place;
        if (place == null) {
            return "";
        }
        StringBuilder steps = new StringBuilder();
        for (Dir d = place.dir(); d != now.mounts.get(place.mount()).top; d = d.outer) {
            steps.insert(0, "/" + d.name);
        }
        return way(place.mount()) + steps;
    }

    int pathByte(int index) {
        return pathText.charAt(Objects.checkIndex(index, pathText.length()));
    }

    private World change() {
        World before = now.copy();
        past.add(before);
        if (past.size() > 8) {
            past.remove(0);
        }
        return before;
    }

    /** Takes the world if it is not too full; what was refused changed a copy alone. */
    private int take(World world, int answer) {
        if (world.mounts.size() > 40 || world.spaces > 4) {
            return -8;
        }
        now = world;
        return answer;
    }

    int mount(int onto, int place, int volume) {
        Dir dir = known(onto, place);
        Objects.checkIndex(volume, now.vols.size());
        return mounted(onto, dir, now.vols.get(volume), change());
    }

    private int mounted(int onto, Dir dir, Vol vol, World before) {
        if (now.on(onto, dir) != null) {
            return -1;
        }
        World world = now.copy();
        int x = world.add(new M(world.mounts.get(onto).space, vol, vol.dirs.get(0)));
        return take(world, 1 + world.put(x, onto, dir, before));
    }

    int bind(int source, int top, int onto, int place) {
        Dir topDir = known(source, top);
        Dir dir = known(onto, place);
        return bound(source, topDir, onto, dir, change());
    }

    private int bound(int source, Dir top, int onto, Dir dir, World before) {
        M s = now.mounts.get(source);
        if (now.on(onto, dir) != null) {
            return -1;
        }
        if (s.secret) {
            return -2;
        }
        if (s.space != now.mounts.get(onto).space) {
            return -7;
        }
        World world = now.copy();
        M x = new M(s.space, s.vol, top);
        x.group = s.group;
        x.master = s.master;
        return take(world, 1 + world.put(world.add(x), onto, dir, before));
    }

    int move(int mount, int onto, int place) {
        M m = known(mount);
        Dir dir = known(onto, place);
        World before = change();
        M target = now.mounts.get(onto);
        if (now.on(onto, dir) != null) {
            return -1;
        } else if (m.secret && target.group != 0) {
            return -2;
        } else if (m.locked) {
            return -3;
        } else if (m.place == null) {
            return -4;
        } else if (target.group != 0 && now.busy(mount)) {
            return -5;
        } else if (now.mounts.get(m.place.mount()).group != 0) {
            return -6;
        } else if (m.space != target.space || onto == mount || now.under(onto, mount)) {
            return -7;
        }
        World world = now.copy();
        return take(world, world.put(mount, onto, dir, before));
    }

    int unmount(int mount) {
        M m = known(mount);
        World before = change();
        if (m.locked) {
            return -3;
        } else if (m.place == null) {
            return -4;
        } else if (now.busy(mount)) {
            return -5;
        }
        int removed = 1;
        now.mounts.remove(mount);
        for (int f : before.followers(m.place.mount())) {
            Integer there = f == m.place.mount() ? null : now.on(f, m.place.dir());
            if (there == null || !now.mounts.containsKey(f)) {
                continue;
            }
            M like = now.mounts.get(there);
            if (like.vol == m.vol && like.top == m.top && !like.locked && !now.busy(there)) {
                now.mounts.remove(there);
                removed++;
            }
        }
        return removed;
    }

    int make(int mount, int kind) {
        M m = known(mount);
        if (kind < 0 || kind > 3) {
            throw new IllegalArgumentException();
        }
        change();
        made(now, m, List.of("private", "shared", "slave", "secret").get(kind));
        return m.group;
    }

    private static void made(World world, M m, String kind) {
        m.secret = kind.equals("secret");
        if (kind.equals("shared")) {
            if (m.group == 0) {
                m.group = ++world.lastGroup;
            }
            return;
        }
        boolean hasPeer = world.mounts.values().stream().filter(o -> o.group == m.group).count() > 1;
        if (!kind.equals("slave")) {
            m.master = 0;
        } else if (m.group != 0 && hasPeer) {
            m.master = m.group;
        }
        m.group = 0;
    }

    int copySpace(int space, boolean isLocked) {
        Objects.checkIndex(space, now.spaces);
        change();
        World world = now.copy();
        Map<Integer, Integer> numbers = new TreeMap<>();
        now.mounts.forEach((n, m) -> {
            if (m.space == space) {
                M copy = m.copy();
                copy.space = world.spaces;
                if (isLocked) {
                    copy.locked = true;
                    copy.group = 0;
                    copy.master = m.group != 0 ? m.group : m.master;
                }
                numbers.put(n, world.add(copy));
            }
        });
        for (int n : numbers.values()) {
            M copy = world.mounts.get(n);
            if (copy.place != null) {
                copy.place = new Place(numbers.get(copy.place.mount()), copy.place.dir());
            }
        }
        return take(world, world.spaces++);
    }

    int dropSpace() {
        if (now.spaces == 1) {
            throw new IllegalStateException();
        }
        change();
        now.spaces--;
        now.mounts.values().removeIf(m -> m.space == now.spaces);
        return now.mounts.size();
    }

    int undo() {
        if (past.isEmpty()) {
            return -1;
        }
        now = past.remove(past.size() - 1);
        return past.size();
    }

    long checksum() {
        List<Integer> numbers = new ArrayList<>();
        for (int what = 0; what < 9; what++) {
            numbers.add(count(what));
        }
        for (int v = 0; v < now.vols.size(); v++) {
            numbers.add(directories(v));
            for (int d = 0; d < directories(v); d++) {
                numbers.add(outer(v, d));
            }
        }
        for (int mount : now.mounts.keySet()) {
            numbers.add(mount);
            for (int what = 0; what < 9; what++) {
                numbers.add(told(mount, what));
            }
            numbers.add(followers(mount));
        }
        for (int space = 0; space < now.spaces; space++) {
            numbers.add(seen(space));
        }
        long sum = 0;
        for (int n : numbers) {
            sum = sum * 31 + n;
        }
        return sum;
    }

    // --- texts ---------------------------------------------------------------------------------

    static final class TextError extends RuntimeException {
        private static final long serialVersionUID = 1L;
        final int code;
        final int offset;

        TextError(int code, int offset) {
            this.code = code;
            this.offset = offset;
        }
    }

    record Token(String text, int offset) {
    }

    static class Tokens {
        private final List<Token> tokens = new ArrayList<>();
        private int next = 0;

        Tokens(byte[] text) {
            String signs = new String(text, java.nio.charset.StandardCharsets.ISO_8859_1);
            java.util.regex.Matcher matcher = java.util.regex.Pattern
                .compile("[a-z]+|[^ ]", java.util.regex.Pattern.DOTALL).matcher(signs);
            while (matcher.find()) {
                tokens.add(new Token(matcher.group(), matcher.start()));
            }
            tokens.add(new Token("", signs.length()));
        }

        /** Whether the next token is this one; the empty one stands for the end. */
        boolean is(String text) {
            return tokens.get(next).text().equals(text);
        }

        TextError error(int code) {
            return new TextError(code, tokens.get(next).offset());
        }

        void need(boolean isRight) {
            if (!isRight) {
                throw error(-12);
            }
        }

        String skip() {
            return tokens.get(next++).text();
        }

        void take(String text) {
            need(is(text));
            skip();
        }

        boolean isName() {
            return tokens.get(next).text().matches("[a-z]{1,6}");
        }

        Place path(World world, int space) {
            take("/");
            Place place = world.start(space);
            boolean isMore = tokens.get(next).text().matches("[a-z]+");
            while (isMore) {
                need(isName());
                Dir inner = place.dir().inner.get(tokens.get(next).text());
                if (inner == null) {
                    throw error(-13);
                }
                place = world.settle(new Place(place.mount(), inner));
                skip();
                isMore = is("/");
                if (isMore) {
                    skip();
                }
            }
            return place;
        }
    }

    static final class SetupText extends Tokens {
        private final Model model = new Model();
        private final World world = new World();

        SetupText(byte[] text) {
            super(text);
        }

        World read() {
            model.now = world;
            take("spaces");
            take(";");
            do {
                need(is("volume"));
                if (world.vols.size() == 4) {
                    throw error(-15);
                }
                skip();
                volume();
            } while (!is("root"));
            skip();
            Vol root = volumeNamed();
            take(";");
            world.add(new M(0, root, root.dirs.get(0)));
            while (!is("")) {
                statement();
            }
            return model.now;
        }

        private void volume() {
            need(isName());
            String name = skipName(world.vols.stream().map(v -> v.name).toList());
            Vol vol = new Vol(name);
            world.vols.add(vol);
            inside(vol, vol.dirs.get(0), 0);
            take(";");
        }

        private String skipName(java.util.Collection<String> others) {
            for (String other : others) {
                if (is(other)) {
                    throw error(-14);
                }
            }
            return skip();
        }

        private void inside(Vol vol, Dir outer, int depth) {
            if (!is("(")) {
                return;
            }
            if (depth == 5) {
                throw error(-15);
            }
            do {
                skip();
                need(isName());
                if (vol.dirs.size() == 12 && !outer.inner.keySet().stream().anyMatch(this::is)) {
                    throw error(-15);
                }
                Dir dir = new Dir(skipName(outer.inner.keySet()), outer, vol.dirs.size());
                vol.dirs.add(dir);
                outer.inner.put(dir.name, dir);
                inside(vol, dir, depth + 1);
            } while (is(","));
            take(")");
        }

        private Vol volumeNamed() {
            need(isName());
            Vol vol = world.vols.stream().filter(v -> is(v.name)).findFirst().orElse(null);
            if (vol == null) {
                throw error(-13);
            }
            skip();
            return vol;
        }

        private void statement() {
            int answer = 0;
            if (is("mount")) {
                skip();
                Vol vol = volumeNamed();
                Place place = path(model.now, 0);
                need(is(";"));
                answer = model.mounted(place.mount(), place.dir(), vol, model.now.copy());
            } else if (is("bind")) {
                skip();
                Place source = path(model.now, 0);
                take(">");
                Place place = path(model.now, 0);
                need(is(";"));
                answer = model.bound(source.mount(), source.dir(), place.mount(), place.dir(),
                    model.now.copy());
            } else {
                take("make");
                need(is("private") || is("shared") || is("slave") || is("secret"));
                String kind = skip();
                Place place = path(model.now, 0);
                need(is(";"));
                made(model.now, model.now.mounts.get(place.mount()), kind);
            }
            if (answer < 0) {
                throw error(-16);
            }
            skip();
        }
    }
}
