import com.sun.management.ThreadMXBean;
import java.lang.management.ManagementFactory;
import java.lang.reflect.Constructor;
import java.lang.reflect.Field;
import java.lang.reflect.Method;
import java.lang.reflect.Modifier;
import java.util.List;
import java.util.TreeSet;

/** The public face with its exceptions, nothing beside it; and that calls make no objects. */
public final class FaceTest {
    /** The exceptions by their letters: Index, Argument, State, Unsupported. */
    private static final String[] FACE = {
        "BlockSorter(int,int,int)",
        "int NONE", "int DOWN",
        "void width(int) AS", "int key(int,boolean) IAS", "int mode(int) AS",
        "int feed(long,long,long,long) SU", "int run(long,int,int) AS", "int form(int) ASU",
        "int pass(int) ASU", "int best(int) ASU", "int poly(int) ASU", "int plan(int) A",
        "int runs()", "int records(int) I", "int block(int,int) I",
        "long told(int,int,int) IS", "int rank(int,long) IS", "int drop(int) IS",
        "int count(int) A", "void crash(int) AS", "int up() S",
    };
    private static final List<Class<?>> KINDS = List.of(IndexOutOfBoundsException.class,
            IllegalArgumentException.class, IllegalStateException.class,
            UnsupportedOperationException.class);

    private FaceTest() {
    }

    public static void main(String[] args) {
        face();
        room();
        Due.end();
    }

    private static void face() {
        Class<?> c = BlockSorter.class;
        Due.is("the class", Modifier.toString(c.getModifiers()), "public final");
        Due.is("NONE", BlockSorter.NONE, -1);
        Due.is("DOWN", BlockSorter.DOWN, -2);
        TreeSet<String> seen = new TreeSet<>();
        for (Constructor<?> k : c.getDeclaredConstructors()) {
            if (!Modifier.isPrivate(k.getModifiers())) {
                seen.add("BlockSorter" + arguments(k.getParameterTypes())
                        + exceptions(k.getExceptionTypes()));
            }
        }
        for (Field f : c.getDeclaredFields()) {
            if (!Modifier.isPrivate(f.getModifiers())) {
                seen.add(f.getType().getSimpleName() + " " + f.getName());
            }
        }
        for (Method m : c.getDeclaredMethods()) {
            if (!Modifier.isPrivate(m.getModifiers())) {
                seen.add(m.getReturnType().getSimpleName() + " " + m.getName()
                        + arguments(m.getParameterTypes()) + exceptions(m.getExceptionTypes()));
            }
        }
        Due.is("the face", seen.toString(), new TreeSet<>(List.of(FACE)).toString());
    }

    private static String arguments(Class<?>[] types) {
        StringBuilder text = new StringBuilder("(");
        for (Class<?> t : types) {
            text.append(text.length() == 1 ? "" : ",").append(t.getSimpleName());
        }
        return text.append(')').toString();
    }

    private static String exceptions(Class<?>[] types) {
        StringBuilder text = new StringBuilder(types.length == 0 ? "" : " ");
        for (Class<?> t : types) {
            int kind = KINDS.indexOf(t);
            text.append(kind < 0 ? t.getSimpleName() : "IASU".substring(kind, kind + 1));
        }
        return text.toString();
    }

    /** All calls of a run live in one room, so the constructor alone may make rows. */
    private static void room() {
        ThreadMXBean threads = (ThreadMXBean) ManagementFactory.getThreadMXBean();
        long id = Thread.currentThread().getId();
        work(new BlockSorter(200, 5, 64));
        BlockSorter x = new BlockSorter(200, 5, 64);
        long before = threads.getThreadAllocatedBytes(id);
        work(x);
        long made = threads.getThreadAllocatedBytes(id) - before;
        Due.is("made by 512 calls: fewer than 4096 bytes", made < 4096 ? 1 : 0, 1);
    }

    private static void work(BlockSorter x) {
        for (int i = 0; i < 512; i += 8) {
            x.run(i, 1000, 150);
            x.form(i / 8 % 3);
            x.plan(2);
            int tapes = 3 + i / 8 % 4;
            if (i % 3 == 0) {
                x.poly(tapes);
            } else if (i % 3 == 1) {
                x.best(tapes);
            } else {
                x.pass(tapes);
            }
            x.rank(0, 500);
            x.told(0, 0, 0);
            x.block(0, 0);
            x.drop(0);
        }
    }
}
