import java.util.NoSuchElementException;

/** A disk in two name spaces: what is mounted in the first one is copied to the second one. */
public final class Example {
    private Example() {
    }

    public static void main(String[] args) {
        MountSpaces x = new MountSpaces();

        // The disk's directories are 0, its root, 1 home, 2 home/ann, and 3 mnt.
        String setup = "spaces; volume disk(home(ann), mnt); volume usb(pics); root disk;"
            + " make shared /;";
        tell("load: mounts", load(x, setup));
        tell("group of mount 0", x.told(0, 5));

        tell("copySpace: new space", x.copySpace(0, true));
        tell("master of its mount 1", x.told(1, 6));

        tell("mount usb on mnt: mounts made", x.mount(0, 3, 1));
        tell("mount on mnt of mount 1", x.mountOn(1, 3));
        System.out.println("path of mount 3: " + path(x, 3));
        tell("look in space 1, mount 3 and directory 1", look(x, 1, "/mnt/pics"));
        tell("mount once more: TAKEN", x.mount(0, 3, 1));

        tell("unmount: mounts removed", x.unmount(2));
        tell("undo: changes that are left", x.undo());
        tell("mounts", x.count(2));

        tell("load with an unknown name", load(x, "spaces; volume a; root b;"));
        tell("its offset", x.errorOffset());
        try {
            x.told(9, 0);
        } catch (NoSuchElementException e) {
            System.out.println("there is no mount 9");
        }
    }

    private static void tell(String what, int answer) {
        System.out.println(what + ": " + answer);
    }

    private static int load(MountSpaces x, String text) {
        append(x, text);
        return x.load(text.length());
    }

    private static int look(MountSpaces x, int space, String path) {
        append(x, path);
        return x.look(space, path.length());
    }

    /** The text of a path, byte by byte. */
    private static String path(MountSpaces x, int mount) {
        StringBuilder text = new StringBuilder();
        int length = x.path(mount);
        for (int i = 0; i < length; i++) {
            text.append((char) x.pathByte(i));
        }
        return text.toString();
    }

    /** Puts a text into the input buffer, 20 bytes a call; what fills the last call is not read. */
    private static void append(MountSpaces x, String text) {
        for (int i = 0; i < text.length(); i += 20) {
            x.append(word(text, i), word(text, i + 4), word(text, i + 8), word(text, i + 12),
                word(text, i + 16));
        }
    }

    /** Four bytes of the text, the most significant one first. */
    private static int word(String text, int from) {
        int word = 0;
        for (int i = from; i < from + 4; i++) {
            word = word << 8 | (i < text.length() ? text.charAt(i) : 0);
        }
        return word;
    }
}
