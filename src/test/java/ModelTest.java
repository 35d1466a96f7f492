import java.util.ArrayList;
import java.util.List;
import java.util.function.LongSupplier;

/** Long runs of calls, each compared with the answer of Model; argument: how many runs. */
public final class ModelTest {
    private static final String[] NAMES = {
        "a", "b", "c", "dd", "spaces", "volume", "root", "mount", "secret", "end", "zzzzzz"};
    private static final String[] KINDS = {"private", "shared", "slave", "secret", "shared"};

    private final Model model = new Model();
    private final MountSpaces x = new MountSpaces();
    private final StringBuilder log = new StringBuilder();
    private long seed;
    private int calls = 0;
    private boolean isGood = true;

    private ModelTest(long seed) {
        this.seed = seed;
    }

    public static void main(String[] args) {
        int runs = args.length > 0 ? Integer.parseInt(args[0]) : 400;
        long first = args.length > 1 ? Long.parseLong(args[1]) : 1;
        int wrong = 0;
        for (int run = 0; run < runs; run++) {
            ModelTest test = new ModelTest(first + run);
            test.run();
            if (!test.isGood) {
                wrong++;
                if (wrong <= 3) {
                    System.out.println("run " + (first + run) + ":\n" + test.log);
                }
            }
        }
        Check.same("runs with a wrong answer", wrong, 0);
        Check.end("ModelTest");
    }

    private int below(int bound) {
        seed = seed * 6364136223846793005L + 1442695040888963407L;
        return (int) Long.remainderUnsigned(seed >>> 17, bound);
    }

    private boolean oneIn(int times) {
        return below(times) == 0;
    }

    private void run() {
        if (!oneIn(8)) {
            load();
        }
        // A load takes up to 33 calls, and more than 512 calls are not promised to be answered.
        while (calls < 470 && isGood) {
            if (oneIn(60)) {
                load();
            } else {
                call();
            }
        }
        while (calls < 511 && isGood) {
            both("undo", x::undo, model::undo);
            both("checksum", x::checksum, model::checksum);
        }
    }

    private void both(String call, LongSupplier program, LongSupplier due) {
        calls++;
        String got = answer(program);
        String want = answer(due);
        log.append(call).append(" = ").append(got).append('\n');
        if (!got.equals(want)) {
            isGood = false;
            log.append("due is ").append(want).append('\n');
        }
    }

    private static String answer(LongSupplier body) {
        try {
            return Long.toString(body.getAsLong());
        } catch (RuntimeException e) {
            return e.getClass().getName();
        }
    }

    private void append(String text) {
        byte[] bytes = new byte[(text.length() + 19) / 20 * 20];
        for (int i = 0; i < text.length(); i++) {
            bytes[i] = (byte) text.charAt(i);
        }
        for (int i = 0; i < bytes.length; i += 20) {
            int[] w = new int[5];
            for (int k = 0; k < 5; k++) {
                w[k] = Check.word(bytes, i + 4 * k);
            }
            both("append " + text.substring(i, Math.min(text.length(), i + 20)),
                () -> x.append(w[0], w[1], w[2], w[3], w[4]), () -> model.append(w));
        }
    }

    private void load() {
        String text = setupText();
        if (oneIn(5)) {
            int at = below(text.length());
            String change = oneIn(2) ? "" : ";(),/> ag\n{volume".substring(below(9)).substring(0, 1);
            text = text.substring(0, at) + change + text.substring(at + below(2));
        }
        append(text);
        int length = oneIn(10) ? below(text.length() + 25) - 2 : text.length();
        both("load " + length, () -> x.load(length), () -> model.load(length));
        both("errorOffset", x::errorOffset, model::errorOffset);
        both("checksum", x::checksum, model::checksum);
    }

    private String setupText() {
        StringBuilder text = new StringBuilder("spaces;");
        List<String> names = new ArrayList<>();
        int volumes = 1 + below(oneIn(6) ? 5 : 3);
        for (int v = 0; v < volumes; v++) {
            String name = v > 0 && oneIn(30) ? names.get(0) : NAMES[(v * 3 + below(3)) % 11];
            names.add(name);
            text.append("volume ").append(name);
            inside(text, oneIn(20) ? 6 : 1 + below(3));
            text.append(';');
        }
        text.append("root ").append(names.get(below(names.size()))).append(";");
        int statements = below(oneIn(3) ? 40 : 12);
        for (int s = 0; s < statements && text.length() < 560; s++) {
            Model.World world = worldOf(text.toString());
            String statement = statement(names, world);
            if (text.length() + statement.length() <= 600) {
                text.append(statement);
            }
        }
        return text.length() > 600 ? text.substring(0, 600) : text.toString();
    }

    private void inside(StringBuilder text, int depth) {
        if (depth == 0 || oneIn(5)) {
            return;
        }
        int more = 1 + below(3);
        for (int i = 0; i < more; i++) {
            text.append(i == 0 ? "(" : ",").append(oneIn(3) ? " " : "")
                .append(NAMES[oneIn(40) ? 0 : (i * 3 + below(3)) % 11]);
            inside(text, oneIn(12) ? depth : depth - 1 - below(depth));
        }
        text.append(")");
    }

    private String statement(List<String> volumes, Model.World world) {
        int what = below(3);
        if (what == 0) {
            return "mount " + volumes.get(below(volumes.size())) + pathText(world, 0) + ";";
        }
        return what == 1 ? "bind " + pathText(world, 0) + ">" + pathText(world, 0) + ";"
            : "make " + KINDS[below(5)] + pathText(world, 0) + ";";
    }

    /** A path that mostly leads to something in this world, if there is one. */
    private String pathText(Model.World world, int space) {
        StringBuilder text = new StringBuilder();
        int steps = below(5);
        Model.Place place = world == null ? null : world.start(space);
        for (int i = 0; i < steps; i++) {
            if (place != null && place.dir().inner.isEmpty() && !oneIn(60)) {
                break;
            }
            String name = NAMES[below(9)];
            if (place != null && !place.dir().inner.isEmpty() && !oneIn(60)) {
                List<String> inner = new ArrayList<>(place.dir().inner.keySet());
                name = inner.get(below(inner.size()));
                place = world.settle(new Model.Place(place.mount(), place.dir().inner.get(name)));
            } else {
                place = null;
            }
            text.append(oneIn(9) ? " /" : "/").append(name);
        }
        return text.length() == 0 ? "/" : text.toString();
    }

    /** What a setup text describes; null if it has an error. */
    private static Model.World worldOf(String text) {
        try {
            return new Model.SetupText(text.getBytes(java.nio.charset.StandardCharsets.ISO_8859_1))
                .read();
        } catch (Model.TextError e) {
            return null;
        }
    }

    private int mount() {
        if (oneIn(40)) {
            return below(50) - 2;
        }
        List<Integer> numbers = new ArrayList<>(model.now.mounts.keySet());
        return oneIn(3) ? numbers.get(numbers.size() - 1) : numbers.get(below(numbers.size()));
    }

    private int directory(int mount) {
        if (oneIn(25) || !model.now.mounts.containsKey(mount)) {
            return below(14) - 1;
        }
        Model.M m = model.now.mounts.get(mount);
        List<Integer> inside = new ArrayList<>();
        for (Model.Dir dir : m.vol.dirs) {
            if (dir.isInOrBelow(m.top)) {
                inside.add(dir.index);
            }
        }
        return inside.get(below(inside.size()));
    }

    private int space() {
        return oneIn(20) ? below(7) - 1 : below(model.now.spaces);
    }

    private void call() {
        int a = mount();
        int d = directory(a);
        switch (below(17)) {
            case 0: case 1: case 2: case 3: case 4: case 5: case 6: case 7:
                change(below(12), a, d);
                break;
            case 8:
                int what = oneIn(20) ? below(13) - 2 : below(9);
                both("count " + what, () -> x.count(what), () -> model.count(what));
                both("told " + a + " " + what, () -> x.told(a, what), () -> model.told(a, what));
                break;
            case 9:
                int v = below(6) - 1;
                int dir = below(14) - 1;
                both("directories " + v, () -> x.directories(v), () -> model.directories(v));
                both("outer " + v + " " + dir, () -> x.outer(v, dir), () -> model.outer(v, dir));
                break;
            case 10:
                both("mountAt " + a, () -> x.mountAt(a), () -> model.mountAt(a));
                both("mountOn " + a + " " + d, () -> x.mountOn(a, d), () -> model.mountOn(a, d));
                break;
            case 11:
                look();
                break;
            case 12:
                int space = space();
                both("seen " + space, () -> x.seen(space), () -> model.seen(space));
                break;
            case 13:
                both("isSeen " + a + " " + d, () -> x.isSeen(a, d) ? 1 : 0,
                    () -> model.isSeen(a, d) ? 1 : 0);
                both("followers " + a, () -> x.followers(a), () -> model.followers(a));
                break;
            case 14:
                both("wouldMake " + a + " " + d, () -> x.wouldMake(a, d),
                    () -> model.wouldMake(a, d));
                break;
            case 15:
                path(a);
                break;
            default:
                both("checksum", x::checksum, model::checksum);
                break;
        }
    }

    private void change(int which, int a, int d) {
        int b = mount();
        int e = directory(b);
        switch (which) {
            case 0: case 1: case 2:
                int volume = oneIn(20) ? below(7) - 1 : below(model.now.vols.size());
                both("wouldMake " + a + " " + d, () -> x.wouldMake(a, d),
                    () -> model.wouldMake(a, d));
                both("mount " + a + " " + d + " " + volume, () -> x.mount(a, d, volume),
                    () -> model.mount(a, d, volume));
                break;
            case 3: case 4:
                both("bind " + b + " " + e + " " + a + " " + d, () -> x.bind(b, e, a, d),
                    () -> model.bind(b, e, a, d));
                break;
            case 5: case 6:
                both("move " + b + " " + a + " " + d, () -> x.move(b, a, d),
                    () -> model.move(b, a, d));
                break;
            case 7:
                both("unmount " + a, () -> x.unmount(a), () -> model.unmount(a));
                break;
            case 8: case 9:
                int kind = oneIn(20) ? below(8) - 2 : oneIn(4) ? below(4) : 1 + below(2);
                both("make " + a + " " + kind, () -> x.make(a, kind), () -> model.make(a, kind));
                break;
            case 10:
                int space = space();
                boolean isLocked = oneIn(2);
                both("copySpace " + space + " " + isLocked, () -> x.copySpace(space, isLocked),
                    () -> model.copySpace(space, isLocked));
                break;
            default:
                boolean isUndo = !oneIn(3);
                both(isUndo ? "undo" : "dropSpace", isUndo ? x::undo : x::dropSpace,
                    isUndo ? model::undo : model::dropSpace);
                break;
        }
        if (oneIn(2)) {
            both("checksum", x::checksum, model::checksum);
        }
    }

    private void look() {
        int space = space();
        String text = pathText(model.now, space < 0 || space >= model.now.spaces ? 0 : space);
        if (oneIn(5)) {
            text = text + "/x a;\u0000".charAt(below(6));
        }
        append(text);
        int length = oneIn(10) ? below(30) - 2 : text.length();
        both("look " + space + " " + length, () -> x.look(space, length),
            () -> model.look(space, length));
        both("errorOffset", x::errorOffset, model::errorOffset);
    }

    private void path(int mount) {
        both("path " + mount, () -> x.path(mount), () -> model.path(mount));
        int index = below(12) - 1;
        both("pathByte " + index, () -> x.pathByte(index), () -> model.pathByte(index));
    }
}
