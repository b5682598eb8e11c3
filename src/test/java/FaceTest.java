import java.lang.reflect.Constructor;
import java.lang.reflect.Field;
import java.lang.reflect.Method;
import java.lang.reflect.Modifier;
import java.util.ArrayList;
import java.util.Arrays;
import java.util.Collections;
import java.util.List;

/** The public face is the document's and no more; calls make next to nothing, whatever they ask. */
public final class FaceTest {
    private static final String[] FACE = {"alone()int", "back()int", "best(int)int", "books(int,int)int",
        "buckets(int,int)int", "cell(int,int,int)int", "chance(int,int,int)long", "copy(int,int,int,int,int)int",
        "count(int)int", "day(int)int", "drawn(int)int", "feed(int)int", "film(int)int", "force(int)int", "gains(int)int",
        "good(int,int)int", "image()int", "order(int,int)int", "set(int,int,int)int", "sheet(int,int,int)int",
        "taken(int,int)int", "text()int", "told(int,int)int", "tooWarm()int", "wall(int,int,int)int",
        "walls(int,int,int,int)int", "warms(int)long", "wetting(int,int)int"};
    private static final Check check = new Check();

    public static void main(String[] args) {
        check.due("NONE", BeforeItGoes.NONE, -1);
        check.due("BAD", BeforeItGoes.BAD, -2);
        check.due("STATE", BeforeItGoes.STATE, -3);
        check.due("FULL", BeforeItGoes.FULL, -4);
        check.due("NO", BeforeItGoes.NO, -4611686018427387904L);
        members();
        room();
        check.end();
    }

    private static void members() {
        List<String> face = new ArrayList<>();
        for (Method m : BeforeItGoes.class.getDeclaredMethods()) {
            if (Modifier.isPrivate(m.getModifiers())) {
                continue;
            }
            check.due(m + " is public", Modifier.isPublic(m.getModifiers()) ? 1 : 0, 1);
            List<String> takes = new ArrayList<>();
            for (Class<?> c : m.getParameterTypes()) {
                takes.add(c.getName());
            }
            face.add(m.getName() + "(" + String.join(",", takes) + ")" + m.getReturnType());
        }
        Collections.sort(face);
        check.due("the methods " + face, face.equals(Arrays.asList(FACE)) ? 1 : 0, 1);
        int fields = 0;
        for (Field f : BeforeItGoes.class.getDeclaredFields()) {
            fields += Modifier.isPrivate(f.getModifiers()) ? 0 : 1;
        }
        check.due("fields that are not private", fields, 5);
        Constructor<?>[] made = BeforeItGoes.class.getDeclaredConstructors();
        check.due("constructors", made.length, 1);
        check.due("it is public", Modifier.isPublic(made[0].getModifiers()) ? 1 : 0, 1);
        check.due("it takes nothing", made[0].getParameterCount(), 0);
        check.due("the class is final", Modifier.isFinal(BeforeItGoes.class.getModifiers()) ? 1 : 0, 1);
    }

    /** The dearest calls, one after the other, make less than a thousand bytes in all. */
    private static void room() {
        BeforeItGoes x = new BeforeItGoes();
        for (int i = 0; i < 6; i++) {
            x.wall(i, i, 20 - i);
        }
        com.sun.management.ThreadMXBean bean =
                (com.sun.management.ThreadMXBean) java.lang.management.ManagementFactory.getThreadMXBean();
        askAll(x);
        long before = bean.getCurrentThreadAllocatedBytes();
        askAll(x);
        long made = bean.getCurrentThreadAllocatedBytes() - before;
        check.due("bytes made by a round of calls: " + made, made < 1000 ? 1 : 0, 1);
    }

    private static void askAll(BeforeItGoes x) {
        x.best(2);
        x.good(0, 0);
        x.wetting(3, 0);
        x.alone();
        x.tooWarm();
        x.gains(0);
        x.buckets(7, 0);
        x.film(0);
        x.warms(0);
        x.books(0, 3);
        x.books(0, 10);
        x.chance(1, 20, 0);
        x.sheet(1, 2, 40);
        x.copy(0, 0, 1, 0, 6);
        x.walls(1, 2, 0, 6);
        x.image();
        x.back();
        for (int i = 0; i < 160; i++) {
            x.feed('(');
        }
        x.text();
    }
}
