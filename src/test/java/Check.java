import java.nio.charset.StandardCharsets;

/** What the tests share: telling texts to the class, and keeping count of answers that are not due. */
final class Check {
    interface Call {
        Object answer();
    }

    private static int made;
    private static int wrong;

    private Check() {
    }

    static void due(String what, Object got, Object want) {
        made++;
        if (!String.valueOf(got).equals(String.valueOf(want))) {
            wrong++;
            System.out.println(what + " answered " + got + ", due is " + want);
        }
    }

    static void due(String what, Object want, Call call) {
        due(what, answer(call), want);
    }

    /** The answer, or the name of what is thrown. */
    static Object answer(Call call) {
        try {
            return call.answer();
        } catch (RuntimeException e) {
            return e.getClass().getSimpleName();
        }
    }

    static void ends(String test) {
        System.out.println(test + ": " + made + " answers, " + wrong + " not as due");
        if (wrong > 0) {
            System.exit(1);
        }
    }

    static int[] fed(byte[] bytes, int from) {
        int[] five = new int[5];
        for (int i = 0; i < 20; i++) {
            int b = from + i < bytes.length ? bytes[from + i] & 255 : 0;
            five[i / 4] = five[i / 4] << 8 | b;
        }
        return five;
    }

    static void tape(WaistSand x, String text) {
        byte[] bytes = text.getBytes(StandardCharsets.ISO_8859_1);
        for (int i = 0; i < bytes.length; i += 20) {
            int[] f = fed(bytes, i);
            x.feed(f[0], f[1], f[2], f[3], f[4]);
        }
        x.end(bytes.length);
    }

    static Object beach(WaistSand x, String text) {
        tape(x, text);
        return answer(x::beach);
    }

    static Object law(WaistSand x, String text) {
        tape(x, text);
        return answer(x::law);
    }

    static WaistSand told(String beach) {
        WaistSand x = new WaistSand();
        due("beach of " + beach, beach(x, beach), 1);
        return x;
    }

    static WaistSand told(String beach, String law) {
        WaistSand x = told(beach);
        Object lines = law(x, law);
        due("law of " + law, lines instanceof Integer, true);
        return x;
    }
}
