import com.sun.management.ThreadMXBean;
import java.lang.management.ManagementFactory;
import java.lang.reflect.Constructor;
import java.lang.reflect.Field;
import java.lang.reflect.Method;
import java.lang.reflect.Modifier;
import java.util.TreeSet;

/** The public face and nothing beside it; and that calls make next to no objects. */
public final class FaceTest {
    private static final String[] FACE = {
        "BlockSorter(int,int,int)",
        "int NONE", "int DOWN",
        "void width(int)", "int key(int,boolean)", "int mode(int)",
        "int feed(long,long,long,long)", "int run(long,int,int)", "int form(int)",
        "int pass(int)", "int best(int)", "int poly(int)", "int plan(int)", "int runs()",
        "int records(int)", "int block(int,int)", "long told(int,int,int)",
        "int rank(int,long)", "int drop(int)", "int count(int)", "void crash(int)", "int up()",
    };

    private FaceTest() {
    }

    public static void main(String[] args) {
        face();
        room();
        Due.end();
    }

    private static void face() {
        Class<?> c = BlockSorter.class;
        Due.is("the class", Modifier.toString(c.getModifiers()), "public final");
        Due.is("NONE", BlockSorter.NONE, -1);
        Due.is("DOWN", BlockSorter.DOWN, -2);
        TreeSet<String> seen = new TreeSet<>();
        for (Constructor<?> k : c.getDeclaredConstructors()) {
            if (!Modifier.isPrivate(k.getModifiers())) {
                seen.add("BlockSorter" + arguments(k.getParameterTypes()));
            }
        }
        for (Field f : c.getDeclaredFields()) {
            if (!Modifier.isPrivate(f.getModifiers())) {
                seen.add(f.getType().getSimpleName() + " " + f.getName());
            }
        }
        for (Method m : c.getDeclaredMethods()) {
            if (!Modifier.isPrivate(m.getModifiers())) {
                seen.add(m.getReturnType().getSimpleName() + " " + m.getName()
                        + arguments(m.getParameterTypes()));
            }
        }
        Due.is("the face", seen.toString(), new TreeSet<>(java.util.List.of(FACE)).toString());
    }

    private static String arguments(Class<?>[] types) {
        StringBuilder text = new StringBuilder("(");
        for (Class<?> t : types) {
            text.append(text.length() == 1 ? "" : ",").append(t.getSimpleName());
        }
        return text.append(')').toString();
    }

    /** All calls of a run live in one room, so the constructor alone may make rows. */
    private static void room() {
        ThreadMXBean threads = (ThreadMXBean) ManagementFactory.getThreadMXBean();
        long id = Thread.currentThread().getId();
        work(new BlockSorter(200, 5, 64));
        BlockSorter x = new BlockSorter(200, 5, 64);
        long before = threads.getThreadAllocatedBytes(id);
        work(x);
        long made = threads.getThreadAllocatedBytes(id) - before;
        Due.is("made by 512 calls: fewer than 4096 bytes", made < 4096 ? 1 : 0, 1);
    }

    private static void work(BlockSorter x) {
        for (int i = 0; i < 512; i += 8) {
            x.run(i, 1000, 150);
            x.form(i / 8 % 3);
            x.plan(2);
            int tapes = 3 + i / 8 % 4;
            if (i % 3 == 0) {
                x.poly(tapes);
            } else if (i % 3 == 1) {
                x.best(tapes);
            } else {
                x.pass(tapes);
            }
            x.rank(0, 500);
            x.told(0, 0, 0);
            x.block(0, 0);
            x.drop(0);
        }
    }
}
