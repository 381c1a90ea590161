import java.nio.charset.StandardCharsets;

/** What the project's tests share: feeding texts and bytes, and telling wrong answers. */
final class Check {
    private static int wrong;
    private static int asked;

    private Check() {
    }

    static void due(String call, long want, long got) {
        asked++;
        if (got != want) {
            wrong++;
            System.out.println(call + " answered " + got + ", due is " + want);
        }
    }

    static void due(String call, boolean want, boolean got) {
        due(call, want ? 1 : 0, got ? 1 : 0);
    }

    static void feed(StoneRaised x, byte[] bytes) {
        for (int k = 0; k < bytes.length; k += 20) {
            int[] five = new int[5];
            for (int n = 0; n < 20; n++) {
                int octet = k + n < bytes.length ? bytes[k + n] & 255 : ' ';
                five[n / 4] = five[n / 4] << 8 | octet;
            }
            x.feed(five[0], five[1], five[2], five[3], five[4]);
        }
        x.end(bytes.length);
    }

    static byte[] bytes(int... octets) {
        byte[] row = new byte[octets.length];
        for (int k = 0; k < row.length; k++) {
            row[k] = (byte) octets[k];
        }
        return row;
    }

    static int town(StoneRaised x, String text) {
        feed(x, text.getBytes(StandardCharsets.ISO_8859_1));
        return x.town();
    }

    static StoneRaised with(String text) {
        StoneRaised x = new StoneRaised();
        int count = town(x, text);
        if (count < 0) {
            wrong++;
            System.out.println("fault " + x.fault(0) + " at " + x.fault(1) + " in: " + text);
        }
        return x;
    }

    /** The fault that a text has, and its place; NO fault is 0 at -1. */
    static void faulty(String text, int fault, int place) {
        StoneRaised x = new StoneRaised();
        int count = town(x, text);
        due("town() of '" + text + "' refused", fault != 0, count == -1);
        due("fault(0) of '" + text + "'", fault, x.fault(0));
        due("fault(1) of '" + text + "'", place, x.fault(1));
    }

    static byte[] imageOf(StoneRaised x) {
        byte[] row = new byte[x.image()];
        for (int k = 0; k < row.length; k++) {
            row[k] = (byte) x.octet(k);
        }
        return row;
    }

    /** The last byte that an image must have behind the bytes told. */
    static byte[] summed(int... octets) {
        int[] row = java.util.Arrays.copyOf(octets, octets.length + 1);
        int c = 167;
        for (int octet : octets) {
            c = (5 * c + octet) % 251;
        }
        row[octets.length] = c;
        return bytes(row);
    }

    static boolean on(StoneRaised x, byte[] image) {
        feed(x, image);
        return x.on();
    }

    static void finish() {
        System.out.println(wrong == 0 ? asked + " answers are as due" : wrong + " answers are not as due");
        if (wrong != 0) {
            System.exit(1);
        }
    }
}
