import java.lang.reflect.InvocationTargetException;
import java.lang.reflect.Method;
import java.lang.reflect.Modifier;
import java.util.Arrays;
import java.util.Comparator;
import java.util.List;

/** Each call of the face with all kinds of numbers, far beyond what can be, too: none throws, and all answer as the Model does. */
public final class NumbersTest {
    private static final int MOST_CALLS = 512;

    /** What the document names, what is next to it, and what wraps around to a place when it is multiplied or shifted. */
    private static final int[] NUMBERS = {
        0, 1, 2, 3, 4, 5, 6, 7, 8, 9, 10, 11, 12, 13, 14, 15, 16, 17, 18, 20, 21, 22, 25, 32, 33, 48, 49, 60, 61, 64, 99, 100, 255, 256,
        400, 401, 999, 1000, 1000000, 1000001, 1 << 29, 1 << 30, 3 << 29, 613566756, 613566757, 1227133513,
        -1, -2, -3, -6, -7, -8, -32, -64, -256, -613566756, -1227133513, -(1 << 30),
        Integer.MAX_VALUE, Integer.MAX_VALUE - 1, Integer.MAX_VALUE - 7, Integer.MIN_VALUE, Integer.MIN_VALUE + 1, Integer.MIN_VALUE + 7};

    /** With three numbers all of these would be too many. */
    private static final int[] FEWER_NUMBERS = {
        0, 1, 2, 3, 6, 7, 32, 99, 100, 613566757, 1 << 30, -1, -2, -7, -613566756, Integer.MAX_VALUE, Integer.MIN_VALUE, Integer.MIN_VALUE + 1};

    private static final Checks C = new Checks();

    private final Method called;
    private final Method due;
    private final int begun;
    private TownSundays x;
    private Model m;
    private int made;

    private NumbersTest(Method called, int begun) throws NoSuchMethodException {
        this.called = called;
        this.begun = begun;
        due = Model.class.getDeclaredMethod(called.getName(), called.getParameterTypes());
    }

    public static void main(String[] args) throws Exception {
        Method[] face = TownSundays.class.getDeclaredMethods();
        Arrays.sort(face, Comparator.comparing(Method::getName));
        for (Method called : face) {
            // What feed() has of any numbers are four bytes of each; PromiseTest looks at that.
            if (!Modifier.isPublic(called.getModifiers()) || called.getName().equals("feed")) continue;
            for (int begun = 0; begun < 3; begun++) new NumbersTest(called, begun).run();
        }
        C.finish();
    }

    private void run() throws Exception {
        int many = called.getParameterCount();
        begin();
        callAll(new Object[many], 0, many < 3 ? NUMBERS : FEWER_NUMBERS);
        look();
    }

    private void callAll(Object[] told, int place, int[] numbers) throws Exception {
        if (place == told.length) {
            call(told);
            return;
        }
        for (int n : numbers) {
            told[place] = n;
            callAll(told, place + 1, numbers);
        }
    }

    private void call(Object[] told) throws Exception {
        if (made > MOST_CALLS - 100) {
            look();
            begin();
        }
        due(called, due, told);
    }

    private void due(Method ours, Method models, Object[] told) throws Exception {
        made++;
        String call = ours.getName() + Arrays.toString(told) + " (state " + begun + ")";
        try {
            C.due(call, ((Number) ours.invoke(x, told)).longValue(), ((Number) models.invoke(m, told)).longValue());
        } catch (InvocationTargetException e) {
            C.ok(call + " threw " + e.getCause(), false);
        }
    }

    private void due(String name, int... told) throws Exception {
        Class<?>[] kinds = new Class<?>[told.length];
        Arrays.fill(kinds, int.class);
        Object[] boxed = new Object[told.length];
        for (int i = 0; i < told.length; i++) boxed[i] = told[i];
        due(TownSundays.class.getDeclaredMethod(name, kinds), Model.class.getDeclaredMethod(name, kinds), boxed);
    }

    /** A state without TOWNS, one with some, one with all that can be kept. */
    private void begin() throws Exception {
        x = new TownSundays();
        m = new Model();
        made = 0;
        if (begun == 0) return;
        int towns = begun == 1 ? 3 : 7;
        for (int t = 0; t < towns; t++) due("town", 9 - t, t);
        for (int t = 0; t < towns; t++) due("road", t, (t + 1) % towns, 10 + t);
        for (String law : List.of("likes bells*3+town*sunday+miles;alters bells+1 if town<2;bars if sunday=2 and town=1 and year>900", "likes 9-bells")) {
            put(law);
            due("law");
        }
        due("force", 0);
        due("heard", 1, m.s.likes(0, 1));
        if (begun == 2) due("image", 1);
        due("swap", 0, 1);
        due("pass");
        due("close", 1, 2);
        due("swap", 2, 3 % towns);
        due("centuries", 7, 9);
        put("pass times 2");
    }

    private void put(String text) {
        int[] five = new int[5];
        for (int from = 0; from < text.length(); from += 20) {
            Arrays.fill(five, 0);
            for (int i = from; i < Math.min(from + 20, text.length()); i++) five[(i - from) / 4] |= text.charAt(i) << 24 - 8 * ((i - from) % 4);
            x.feed(five[0], five[1], five[2], five[3], five[4]);
            m.feed(five);
            made++;
        }
        x.end(text.length());
        m.end(text.length());
        made++;
    }

    /** All that was done to both left them alike. */
    private void look() throws Exception {
        due("status");
        due("fault");
        due("stopped");
        due("sidings");
        for (int what = 0; what <= 16; what++) due("count", what);
        for (int town = 0; town < 7; town++) {
            due("of", town, 0);
            due("of", town, 8 + (town + 1) % 7);
            due("sunday", town, 3);
            due("between", town, (town + 1) % 7, 0);
            due("between", town, (town + 1) % 7, 1);
            due("drawn", town, 0);
            due("drawn", town, 1);
        }
        due("repeated");
        due("canBe");
    }
}
