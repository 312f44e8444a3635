import java.lang.management.ManagementFactory;

/** What objects and arrays a run makes: all of them with the object itself, none by its calls. */
public final class RoomTest {
    private static final com.sun.management.ThreadMXBean THREADS =
        (com.sun.management.ThreadMXBean) ManagementFactory.getThreadMXBean();

    public static void main(String[] args) {
        if (!THREADS.isThreadAllocatedMemorySupported()) {
            System.out.println("  this machine does not tell what is allocated");
            return;
        }
        dearCalls(new LockedCarts());
        long start = allocated();
        LockedCarts x = new LockedCarts();
        long made = allocated();
        dearCalls(x);
        long end = allocated();
        System.out.println("      " + (made - start) + " bytes by the constructor, " + (end - made) + " by calls");
        Check.due("the constructor makes little", made - start < 20_000 ? 1 : 0, 1);
        Check.due("512 calls make next to nothing", end - made < 2_000 ? 1 : 0, 1);
        Check.finish();
    }

    private static long allocated() {
        return THREADS.getThreadAllocatedBytes(Thread.currentThread().getId());
    }

    private static void dearCalls(LockedCarts x) {
        for (int cart = 0; cart < 4; cart++) {
            x.cart(9 * cart, 1);
            for (int register = 0; register < 5; register++) {
                x.card(cart, register, 2, 5);
            }
        }
        x.flag(0, 63);
        for (int i = 0; i < 30; i++) {
            x.type('r');
            x.type(';');
        }
        for (int i = 0; i < 90; i++) {
            x.would(i % 4, 20, 0);
            x.best(i % 4, 5, 0);
            x.steps(0, 63);
            x.fault(0);
            if (i % 3 == 0) {
                x.play();
                x.undo();
            }
        }
    }
}
