/** Promise 26: the checksum, made up here from the numbers that the document lists. */
public final class ChecksumTest {
    private ChecksumTest() {
    }

    public static void main(String[] args) {
        newObject();
        small();
        long sum = byCalls(setup());
        Check.same("by the other calls", setup().checksum(), sum);
        wraps();
        Check.end("ChecksumTest");
    }

    private static long sumOf(int... numbers) {
        long sum = 0;
        for (int n : numbers) {
            sum = 31 * sum + n;
        }
        return sum;
    }

    private static void newObject() {
        Check.same("new", new MountSpaces().checksum(), sumOf(
            1, 1, 1, 0, 0, 0, 0, 1, 0,
            1, -1,
            0, 0, 0, 0, -1, -1, 0, 0, 0, 0, 0,
            1));
    }

    private static void small() {
        MountSpaces x = Check.loaded("spaces;volume a(b(c),d);volume u;root a;make shared/;");
        x.copySpace(0, true);
        x.mount(0, 3, 1);
        x.unmount(2);
        x.make(1, 3);
        x.mount(1, 1, 1);
        Check.same("small", x.checksum(), sumOf(
            2, 2, 3, 1, 0, 1, 1, 5, 2,
            4, -1, 0, 1, 0, 1, -1,
            0, 0, 0, 0, -1, -1, 1, 0, 0, 0, 1,
            1, 1, 0, 0, -1, -1, 0, 0, 1, 1, 0,
            4, 1, 1, 0, 1, 1, 0, 0, 0, 0, 0,
            4, 3));
    }

    private static MountSpaces setup() {
        MountSpaces x = Check.loaded("spaces;volume a(b(c,d),e(f));volume u(v);volume w;root a;"
            + "make shared/;mount u/b;bind/b>/e;make slave/e;make shared/e;mount w/b/v;"
            + "make secret/b/v;");
        x.copySpace(0, false);
        x.copySpace(1, true);
        x.mount(1, 0, 0);
        return x;
    }

    private static long byCalls(MountSpaces x) {
        long sum = 0;
        for (int what = 0; what < 9; what++) {
            sum = 31 * sum + x.count(what);
        }
        for (int volume = 0; volume < x.count(0); volume++) {
            sum = 31 * sum + x.directories(volume);
            for (int directory = 0; directory < x.directories(volume); directory++) {
                sum = 31 * sum + x.outer(volume, directory);
            }
        }
        for (int i = 0; i < x.count(2); i++) {
            int mount = x.mountAt(i);
            sum = 31 * sum + mount;
            for (int what = 0; what < 9; what++) {
                sum = 31 * sum + x.told(mount, what);
            }
            sum = 31 * sum + x.followers(mount);
        }
        for (int space = 0; space < x.count(1); space++) {
            sum = 31 * sum + x.seen(space);
        }
        return sum;
    }

    private static void wraps() {
        java.math.BigInteger sum = java.math.BigInteger.ZERO;
        int[] numbers = {1, 1, 1, 0, 0, 0, 0, 1, 0, 1, -1, 0, 0, 0, 0, -1, -1, 0, 0, 0, 0, 0, 1};
        for (int n : numbers) {
            sum = sum.multiply(java.math.BigInteger.valueOf(31))
                .add(java.math.BigInteger.valueOf(n));
        }
        Check.same("the sum is too large for a long", sum.bitLength() > 63, true);
        Check.same("and wraps around", new MountSpaces().checksum(), sum.longValue());
    }
}
